/-- Long.bitCount's own steps, over numbers below 2^64 -/
def bcM1 : Nat → Nat
  | 0 => 0
  | k + 1 => 85 + 256 * bcM1 k
def bcM2 : Nat → Nat
  | 0 => 0
  | k + 1 => 51 + 256 * bcM2 k
def bcM4 : Nat → Nat
  | 0 => 0
  | k + 1 => 15 + 256 * bcM4 k
theorem land256 {u p v q : Nat} (hu : u < 256) (hp : p < 256) : (u + 256 * v) &&& (p + 256 * q) = (u &&& p) + 256 * (v &&& q) := by
  have h1 : ((u + 256 * v) &&& (p + 256 * q)) % 2 ^ 8 = u &&& p := by
    rw [Nat.and_mod_two_pow]
    congr 1 <;> omega
  have h2 : ((u + 256 * v) &&& (p + 256 * q)) / 2 ^ 8 = v &&& q := by
    rw [Nat.and_div_two_pow]
    congr 1 <;> omega
  omega
def bs1 (k x : Nat) : Nat := x - ((x / 2) &&& bcM1 k)
def bs2 (k x : Nat) : Nat := (x &&& bcM2 k) + ((x / 4) &&& bcM2 k)
def bs3 (k x : Nat) : Nat := (x + x / 16) &&& bcM4 k
def pc8 (x : Nat) : Nat := x % 2 + x / 2 % 2 + x / 4 % 2 + x / 8 % 2 + x / 16 % 2 + x / 32 % 2 + x / 64 % 2 + x / 128 % 2
theorem bs1_s (k a x : Nat) (ha : a < 256) : bs1 (k + 1) (a + 256 * x) = bs1 1 a + 256 * bs1 k x ∧ bs1 1 a < 256 ∧ (x / 2 &&& bcM1 k) ≤ x := by
  have A : ∀ a, a < 256 → ∀ e, e < 2 → (a / 2 + 128 * e) &&& 85 = (a / 2) &&& 85 ∧ ((a / 2) &&& 85) ≤ a := by decide +kernel
  have h0 := A a ha (x % 2) (by omega)
  have e : (a + 256 * x) / 2 = (a / 2 + 128 * (x % 2)) + 256 * (x / 2) := by omega
  have hle : (x / 2 &&& bcM1 k) ≤ x / 2 := Nat.and_le_left
  unfold bs1
  rw [e, show bcM1 (k + 1) = 85 + 256 * bcM1 k from rfl, land256 (by omega) (by omega), h0.1, show bcM1 1 = 85 from rfl]
  omega
theorem bs2_s (k a x : Nat) (ha : a < 256) : bs2 (k + 1) (a + 256 * x) = bs2 1 a + 256 * bs2 k x ∧ bs2 1 a < 256 := by
  have A : ∀ a, a < 256 → ∀ e, e < 4 → (a / 4 + 64 * e) &&& 51 = (a / 4) &&& 51 ∧ (a &&& 51) + ((a / 4) &&& 51) < 256 := by decide +kernel
  have h0 := A a ha (x % 4) (by omega)
  have e : (a + 256 * x) / 4 = (a / 4 + 64 * (x % 4)) + 256 * (x / 4) := by omega
  unfold bs2
  rw [e, show bcM2 (k + 1) = 51 + 256 * bcM2 k from rfl, land256 (by omega) (by omega), land256 (by omega) (by omega), h0.1, show bcM2 1 = 51 from rfl]
  omega
/-- nibbles below 8 alone, so that none runs over -/
def nib : Nat → Nat → Prop
  | 0, x => x = 0
  | k + 1, x => x % 16 < 8 ∧ x / 16 % 16 < 8 ∧ nib k (x / 256)
theorem bs3_s (k a x : Nat) (ha : a < 256) (h1 : a % 16 < 8) (h2 : a / 16 < 8) (h3 : x % 16 < 8) : bs3 (k + 1) (a + 256 * x) = bs3 1 a + 256 * bs3 k x ∧ bs3 1 a < 256 := by
  have A : ∀ a, a < 256 → a % 16 < 8 → a / 16 < 8 → ∀ e, e < 8 → (a + (a / 16 + 16 * e)) < 256 ∧ ((a + (a / 16 + 16 * e)) &&& 15) = ((a + a / 16) &&& 15) ∧ ((a + a / 16) &&& 15) < 256 := by decide +kernel
  have h0 := A a ha h1 h2 (x % 16) h3
  have e : (a + 256 * x) + (a + 256 * x) / 16 = (a + (a / 16 + 16 * (x % 16))) + 256 * (x + x / 16) := by omega
  unfold bs3
  rw [e, show bcM4 (k + 1) = 15 + 256 * bcM4 k from rfl, land256 h0.1 (by omega), h0.2.1, show bcM4 1 = 15 from rfl]
  exact ⟨rfl, h0.2.2⟩
theorem bs_byte : ∀ a, a < 256 → bs3 1 (bs2 1 (bs1 1 a)) = pc8 a ∧ bs2 1 (bs1 1 a) % 16 < 8 ∧ bs2 1 (bs1 1 a) / 16 < 8 := by decide +kernel
def pcs : Nat → Nat → Nat
  | 0, _ => 0
  | k + 1, x => pc8 (x % 256) + 256 * pcs k (x / 256)
theorem bs_all : ∀ k x, x < 256 ^ k → bs3 k (bs2 k (bs1 k x)) = pcs k x ∧ bs2 k (bs1 k x) % 16 < 8
  | 0, x, h => by
    have : x = 0 := by simpa using h
    subst this
    exact ⟨rfl, by decide⟩
  | k + 1, x, h => by
    have hd : x / 256 < 256 ^ k := by
      rw [Nat.pow_succ] at h
      exact Nat.div_lt_of_lt_mul (by rw [Nat.mul_comm]; exact h)
    obtain ⟨i1, i2⟩ := bs_all k (x / 256) hd
    have ha : x % 256 < 256 := Nat.mod_lt _ (by omega)
    have e : x = x % 256 + 256 * (x / 256) := by omega
    obtain ⟨a1, a2, _⟩ := bs1_s k (x % 256) (x / 256) ha
    obtain ⟨b1, b2⟩ := bs2_s k (bs1 1 (x % 256)) (bs1 k (x / 256)) a2
    obtain ⟨c0, c1, c2⟩ := bs_byte (x % 256) ha
    obtain ⟨d1, d2⟩ := bs3_s k (bs2 1 (bs1 1 (x % 256))) (bs2 k (bs1 k (x / 256))) b2 c1 c2 i2
    have e1 : bs1 (k + 1) x = bs1 1 (x % 256) + 256 * bs1 k (x / 256) := by rw [← a1, ← e]
    rw [e1, b1, d1, c0, i1]
    refine ⟨rfl, by omega⟩
theorem pc8_le (x : Nat) : pc8 x ≤ 8 := by unfold pc8; omega
theorem pcs_8 (x : Nat) : pcs 8 x = pc8 (x % 256) + 256 * (pc8 (x / 256 % 256) + 256 * (pc8 (x / 65536 % 256) + 256 * (pc8 (x / 16777216 % 256) + 256 * (pc8 (x / 4294967296 % 256) + 256 * (pc8 (x / 1099511627776 % 256) + 256 * (pc8 (x / 281474976710656 % 256) + 256 * pc8 (x / 72057594037927936 % 256))))))) := by
  simp only [pcs, Nat.div_div_eq_div_mul, Nat.reduceMul, Nat.mul_zero, Nat.add_zero]
theorem sum8 {a b c d e f g h : Nat} (ha : a ≤ 8) (hb : b ≤ 8) (hc : c ≤ 8) (hd : d ≤ 8) (he : e ≤ 8) (hf : f ≤ 8) (hg : g ≤ 8) (hh : h ≤ 8) (x y z w : Nat) (hx : x = a + 256 * (b + 256 * (c + 256 * (d + 256 * (e + 256 * (f + 256 * (g + 256 * h)))))))
    (hy : y = x + x / 256) (hz : z = y + y / 65536) (hw : w = z + z / 4294967296) : w % 128 = a + b + c + d + e + f + g + h := by
  obtain ⟨X6, h6⟩ : ∃ X, X = g + 256 * h := ⟨_, rfl⟩
  obtain ⟨X5, h5⟩ : ∃ X, X = f + 256 * X6 := ⟨_, rfl⟩
  obtain ⟨X4, h4⟩ : ∃ X, X = e + 256 * X5 := ⟨_, rfl⟩
  obtain ⟨X3, h3⟩ : ∃ X, X = d + 256 * X4 := ⟨_, rfl⟩
  obtain ⟨X2, h2⟩ : ∃ X, X = c + 256 * X3 := ⟨_, rfl⟩
  obtain ⟨X1, h1⟩ : ∃ X, X = b + 256 * X2 := ⟨_, rfl⟩
  rw [← h6, ← h5, ← h4, ← h3, ← h2, ← h1] at hx
  have e1 : x / 256 = X1 := by omega
  rw [e1] at hy
  obtain ⟨Y6, k6⟩ : ∃ Y, Y = (g + h) + 256 * h := ⟨_, rfl⟩
  obtain ⟨Y5, k5⟩ : ∃ Y, Y = (f + g) + 256 * Y6 := ⟨_, rfl⟩
  obtain ⟨Y4, k4⟩ : ∃ Y, Y = (e + f) + 256 * Y5 := ⟨_, rfl⟩
  obtain ⟨Y3, k3⟩ : ∃ Y, Y = (d + e) + 256 * Y4 := ⟨_, rfl⟩
  obtain ⟨Y2, k2⟩ : ∃ Y, Y = (c + d) + 256 * Y3 := ⟨_, rfl⟩
  obtain ⟨Y1, k1⟩ : ∃ Y, Y = (b + c) + 256 * Y2 := ⟨_, rfl⟩
  have y6 : Y6 = X6 + h := by omega
  have y5 : Y5 = X5 + X6 := by omega
  have y4 : Y4 = X4 + X5 := by omega
  have y3 : Y3 = X3 + X4 := by omega
  have y2 : Y2 = X2 + X3 := by omega
  have y1 : Y1 = X1 + X2 := by omega
  have y0 : y = (a + b) + 256 * Y1 := by omega
  have e3 : y / 65536 = Y2 := by
    clear y1 y2 y3 y4 y5 y6 h1 h2 h3 h4 h5 h6 hx hy e1 k2 k3 k4 k5 k6 hz hw
    omega
  rw [e3] at hz
  clear y1 y2 y3 y4 y5 y6 h1 h2 h3 h4 h5 h6 hx hy e1 e3
  obtain ⟨Z5, z5⟩ : ∃ Z, Z = (f + g + h) + 256 * ((g + h) + 256 * h) := ⟨_, rfl⟩
  obtain ⟨Z4, z4⟩ : ∃ Z, Z = (e + f + g + h) + 256 * Z5 := ⟨_, rfl⟩
  obtain ⟨Z3, z3⟩ : ∃ Z, Z = (d + e + f + g) + 256 * Z4 := ⟨_, rfl⟩
  obtain ⟨Z2, z2⟩ : ∃ Z, Z = (c + d + e + f) + 256 * Z3 := ⟨_, rfl⟩
  obtain ⟨Z1, z1⟩ : ∃ Z, Z = (b + c + d + e) + 256 * Z2 := ⟨_, rfl⟩
  have u5 : Z5 = Y5 + h := by omega
  have u4 : Z4 = Y4 + Y6 := by omega
  have u3 : Z3 = Y3 + Y5 := by omega
  have u2 : Z2 = Y2 + Y4 := by omega
  have u1 : Z1 = Y1 + Y3 := by omega
  have u0 : z = (a + b + c + d) + 256 * Z1 := by omega
  clear u1 u2 u3 u4 u5 k1 k2 k3 k4 k5 k6 y0 hz
  have e5 : z / 4294967296 = Z4 := by
    clear hw z4 z5
    subst z3 z2 z1
    omega
  rw [e5] at hw
  clear e5 z1 z2 z3 z5
  omega
theorem q_ush {x k : Nat} (hx : x < 18446744073709551616) (hk : k < 64) {u : UInt64} (hu : u.toBitVec % 64 = BitVec.ofNat 64 k) : ((lN x).toUInt64 >>> u).toInt64 = lN (x / 2 ^ k) := by
  apply Int64.toBitVec_inj.1
  show ((lN x).toUInt64 >>> u).toBitVec = _
  rw [UInt64.toBitVec_shiftRight, hu, show (lN x).toUInt64.toBitVec = (lN x).toBitVec from rfl, q_lNbv, q_lNbv]
  apply BitVec.eq_of_toNat_eq
  rw [BitVec.ushiftRight_eq', BitVec.toNat_ushiftRight, BitVec.toNat_ofNat, BitVec.toNat_ofNat, BitVec.toNat_ofNat, Nat.shiftRight_eq_div_pow]
  rw [show k % 2 ^ 64 = k from by omega, show x % 2 ^ 64 = x from Nat.mod_eq_of_lt hx]
  rw [Nat.mod_eq_of_lt (Nat.lt_of_le_of_lt (Nat.div_le_self _ _) hx)]
theorem bcM_8 : bcM1 8 = 6148914691236517205 ∧ bcM2 8 = 3689348814741910323 ∧ bcM4 8 = 1085102592571150095 := by decide
theorem q_a127 (a : Nat) : nI a &&& nI 127 = nI (a % 128) := by rw [q_and, show (127 : Nat) = 2 ^ 7 - 1 from rfl, Nat.and_two_pow_sub_one_eq_mod]
theorem ite_tb (x i : Nat) : (if x.testBit i = true then 1 else 0) = x / 2 ^ i % 2 := by
  rw [Nat.testBit_eq_decide_div_mod_eq]
  rcases Nat.mod_two_eq_zero_or_one (x / 2 ^ i) with g | g <;> simp [g]
theorem pc8_d (x d : Nat) : pc8 (x / d % 256) = x / d % 2 + x / (d * 2) % 2 + x / (d * 4) % 2 + x / (d * 8) % 2 + x / (d * 16) % 2 + x / (d * 32) % 2 + x / (d * 64) % 2 + x / (d * 128) % 2 := by
  simp only [← Nat.div_div_eq_div_mul]
  unfold pc8
  generalize x / d = y
  omega
theorem bc_sum (x : Nat) : pc8 (x % 256) + pc8 (x / 256 % 256) + pc8 (x / 65536 % 256) + pc8 (x / 16777216 % 256) + pc8 (x / 4294967296 % 256) + pc8 (x / 1099511627776 % 256) + pc8 (x / 281474976710656 % 256) + pc8 (x / 72057594037927936 % 256) = cdN (fun q => x.testBit q) 64 := by
  have e0 := pc8_d x 1
  rw [Nat.div_one] at e0
  rw [e0, pc8_d, pc8_d, pc8_d, pc8_d, pc8_d, pc8_d, pc8_d]
  unfold cdN
  simp only [sumN, ite_tb, Nat.reducePow, Nat.reduceMul, Nat.zero_add, Nat.add_assoc, Nat.div_one]
theorem q_bitCountL {x : Nat} (hx : x < 18446744073709551616) {K : Int32 → Prop} (h : K (nI (cdN (fun q => x.testBit q) 64))) : wJ13_bitCount_95d88 (lN x) K := by
  obtain ⟨m1, m2, m4⟩ := bcM_8
  unfold wJ13_bitCount_95d88
  simp only [forall_eq]
  rw [q_ush (k := 1) hx (by omega) (by decide), show (6148914691236517205 : Int64) = lN 6148914691236517205 from rfl, lN_and, lN_sub (Nat.le_trans Nat.and_le_left (Nat.div_le_self _ _))]
  obtain ⟨x1, e1⟩ : ∃ x1, x1 = bs1 8 x := ⟨_, rfl⟩
  have b1 : x1 < 18446744073709551616 := by rw [e1]; unfold bs1; omega
  have f1 : x - (x / 2 ^ 1 &&& 6148914691236517205) = x1 := by rw [e1]; unfold bs1; rw [m1]
  rw [f1, q_ush (k := 2) b1 (by omega) (by decide), show (3689348814741910323 : Int64) = lN 3689348814741910323 from rfl, lN_and, lN_and, lN_add]
  obtain ⟨x2, e2⟩ : ∃ x2, x2 = bs2 8 x1 := ⟨_, rfl⟩
  have f2 : (x1 &&& 3689348814741910323) + (x1 / 2 ^ 2 &&& 3689348814741910323) = x2 := by rw [e2]; unfold bs2; rw [m2]
  have b2 : x2 < 18446744073709551616 := by
    have h1 : x1 &&& 3689348814741910323 ≤ 3689348814741910323 := Nat.and_le_right
    have h2 : x1 / 2 ^ 2 &&& 3689348814741910323 ≤ 3689348814741910323 := Nat.and_le_right
    omega
  rw [f2, q_ush (k := 4) b2 (by omega) (by decide), show (1085102592571150095 : Int64) = lN 1085102592571150095 from rfl, lN_add, lN_and]
  obtain ⟨x3, e3⟩ : ∃ x3, x3 = bs3 8 x2 := ⟨_, rfl⟩
  have f3 : (x2 + x2 / 2 ^ 4 &&& 1085102592571150095) = x3 := by rw [e3]; unfold bs3; rw [m4]
  have b3 : x3 ≤ 1085102592571150095 := by rw [← f3]; exact Nat.and_le_right
  have hp : x3 = pcs 8 x := by rw [e3, e2, e1]; exact (bs_all 8 x (by rw [show (256 : Nat) ^ 8 = 18446744073709551616 from rfl]; exact hx)).1
  rw [pcs_8] at hp
  have h4 : x3 / 2 ^ 8 ≤ x3 := Nat.div_le_self _ _
  have h5 : (x3 + x3 / 2 ^ 8) / 2 ^ 16 ≤ x3 + x3 / 2 ^ 8 := Nat.div_le_self _ _
  have s := sum8 (pc8_le _) (pc8_le _) (pc8_le _) (pc8_le _) (pc8_le _) (pc8_le _) (pc8_le _) (pc8_le _) x3 (x3 + x3 / 256) (x3 + x3 / 256 + (x3 + x3 / 256) / 65536) _ hp rfl rfl rfl
  rw [bc_sum] at s
  rw [f3, q_ush (k := 8) (by omega) (by omega) (by decide), lN_add, q_ush (k := 16) (by omega) (by omega) (by decide), lN_add, q_ush (k := 32) (by omega) (by omega) (by decide), lN_add, lN_i, show (127 : Int32) = nI 127 from rfl, q_a127]
  rw [← s] at h
  exact h
