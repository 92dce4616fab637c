/-- Long.bitCount's own steps, over numbers below 2^64 -/
def bcM1 : Nat → Nat
  | 0 => 0
  | k + 1 => 85 + 256 * bcM1 k
def bcM2 : Nat → Nat
  | 0 => 0
  | k + 1 => 51 + 256 * bcM2 k
def bcM4 : Nat → Nat
  | 0 => 0
  | k + 1 => 15 + 256 * bcM4 k
theorem land256 {u p v q : Nat} (hu : u < 256) (hp : p < 256) : (u + 256 * v) &&& (p + 256 * q) = (u &&& p) + 256 * (v &&& q) := by
  have h1 : ((u + 256 * v) &&& (p + 256 * q)) % 2 ^ 8 = u &&& p := by
    rw [Nat.and_mod_two_pow]
    congr 1 <;> omega
  have h2 : ((u + 256 * v) &&& (p + 256 * q)) / 2 ^ 8 = v &&& q := by
    rw [Nat.and_div_two_pow]
    congr 1 <;> omega
  omega
def bs1 (k x : Nat) : Nat := x - ((x / 2) &&& bcM1 k)
def bs2 (k x : Nat) : Nat := (x &&& bcM2 k) + ((x / 4) &&& bcM2 k)
def bs3 (k x : Nat) : Nat := (x + x / 16) &&& bcM4 k
def pc8 (x : Nat) : Nat := x % 2 + x / 2 % 2 + x / 4 % 2 + x / 8 % 2 + x / 16 % 2 + x / 32 % 2 + x / 64 % 2 + x / 128 % 2
theorem bs1_s (k a x : Nat) (ha : a < 256) : bs1 (k + 1) (a + 256 * x) = bs1 1 a + 256 * bs1 k x ∧ bs1 1 a < 256 ∧ (x / 2 &&& bcM1 k) ≤ x := by
  have A : ∀ a, a < 256 → ∀ e, e < 2 → (a / 2 + 128 * e) &&& 85 = (a / 2) &&& 85 ∧ ((a / 2) &&& 85) ≤ a := by decide +kernel
  have h0 := A a ha (x % 2) (by omega)
  have e : (a + 256 * x) / 2 = (a / 2 + 128 * (x % 2)) + 256 * (x / 2) := by omega
  have hle : (x / 2 &&& bcM1 k) ≤ x / 2 := Nat.and_le_left
  unfold bs1
  rw [e, show bcM1 (k + 1) = 85 + 256 * bcM1 k from rfl, land256 (by omega) (by omega), h0.1, show bcM1 1 = 85 from rfl]
  omega
theorem bs2_s (k a x : Nat) (ha : a < 256) : bs2 (k + 1) (a + 256 * x) = bs2 1 a + 256 * bs2 k x ∧ bs2 1 a < 256 := by
  have A : ∀ a, a < 256 → ∀ e, e < 4 → (a / 4 + 64 * e) &&& 51 = (a / 4) &&& 51 ∧ (a &&& 51) + ((a / 4) &&& 51) < 256 := by decide +kernel
  have h0 := A a ha (x % 4) (by omega)
  have e : (a + 256 * x) / 4 = (a / 4 + 64 * (x % 4)) + 256 * (x / 4) := by omega
  unfold bs2
  rw [e, show bcM2 (k + 1) = 51 + 256 * bcM2 k from rfl, land256 (by omega) (by omega), land256 (by omega) (by omega), h0.1, show bcM2 1 = 51 from rfl]
  omega
/-- nibbles below 8 alone, so that none runs over -/
def nib : Nat → Nat → Prop
  | 0, x => x = 0
  | k + 1, x => x % 16 < 8 ∧ x / 16 % 16 < 8 ∧ nib k (x / 256)
theorem bs3_s (k a x : Nat) (ha : a < 256) (h1 : a % 16 < 8) (h2 : a / 16 < 8) (h3 : x % 16 < 8) : bs3 (k + 1) (a + 256 * x) = bs3 1 a + 256 * bs3 k x ∧ bs3 1 a < 256 := by
  have A : ∀ a, a < 256 → a % 16 < 8 → a / 16 < 8 → ∀ e, e < 8 → (a + (a / 16 + 16 * e)) < 256 ∧ ((a + (a / 16 + 16 * e)) &&& 15) = ((a + a / 16) &&& 15) ∧ ((a + a / 16) &&& 15) < 256 := by decide +kernel
  have h0 := A a ha h1 h2 (x % 16) h3
  have e : (a + 256 * x) + (a + 256 * x) / 16 = (a + (a / 16 + 16 * (x % 16))) + 256 * (x + x / 16) := by omega
  unfold bs3
  rw [e, show bcM4 (k + 1) = 15 + 256 * bcM4 k from rfl, land256 h0.1 (by omega), h0.2.1, show bcM4 1 = 15 from rfl]
  exact ⟨rfl, h0.2.2⟩
theorem bs_byte : ∀ a, a < 256 → bs3 1 (bs2 1 (bs1 1 a)) = pc8 a ∧ bs2 1 (bs1 1 a) % 16 < 8 ∧ bs2 1 (bs1 1 a) / 16 < 8 := by decide +kernel
def pcs : Nat → Nat → Nat
  | 0, _ => 0
  | k + 1, x => pc8 (x % 256) + 256 * pcs k (x / 256)
theorem bs_all : ∀ k x, x < 256 ^ k → bs3 k (bs2 k (bs1 k x)) = pcs k x ∧ bs2 k (bs1 k x) % 16 < 8
  | 0, x, h => by
    have : x = 0 := by simpa using h
    subst this
    exact ⟨rfl, by decide⟩
  | k + 1, x, h => by
    have hd : x / 256 < 256 ^ k := by
      rw [Nat.pow_succ] at h
      exact Nat.div_lt_of_lt_mul (by rw [Nat.mul_comm]; exact h)
    obtain ⟨i1, i2⟩ := bs_all k (x / 256) hd
    have ha : x % 256 < 256 := Nat.mod_lt _ (by omega)
    have e : x = x % 256 + 256 * (x / 256) := by omega
    obtain ⟨a1, a2, _⟩ := bs1_s k (x % 256) (x / 256) ha
    obtain ⟨b1, b2⟩ := bs2_s k (bs1 1 (x % 256)) (bs1 k (x / 256)) a2
    obtain ⟨c0, c1, c2⟩ := bs_byte (x % 256) ha
    obtain ⟨d1, d2⟩ := bs3_s k (bs2 1 (bs1 1 (x % 256))) (bs2 k (bs1 k (x / 256))) b2 c1 c2 i2
    have e1 : bs1 (k + 1) x = bs1 1 (x % 256) + 256 * bs1 k (x / 256) := by rw [← a1, ← e]
    rw [e1, b1, d1, c0, i1]
    refine ⟨rfl, by omega⟩
theorem pc8_le (x : Nat) : pc8 x ≤ 8 := by unfold pc8; omega
theorem pcs_8 (x : Nat) : pcs 8 x = pc8 (x % 256) + 256 * (pc8 (x / 256 % 256) + 256 * (pc8 (x / 65536 % 256) + 256 * (pc8 (x / 16777216 % 256) + 256 * (pc8 (x / 4294967296 % 256) + 256 * (pc8 (x / 1099511627776 % 256) + 256 * (pc8 (x / 281474976710656 % 256) + 256 * pc8 (x / 72057594037927936 % 256))))))) := by
  simp only [pcs, Nat.div_div_eq_div_mul, Nat.reduceMul, Nat.mul_zero, Nat.add_zero]
theorem sum8 {a b c d e f g h : Nat} (ha : a ≤ 8) (hb : b ≤ 8) (hc : c ≤ 8) (hd : d ≤ 8) (he : e ≤ 8) (hf : f ≤ 8) (hg : g ≤ 8) (hh : h ≤ 8) (x y z w : Nat) (hx : x = a + 256 * (b + 256 * (c + 256 * (d + 256 * (e + 256 * (f + 256 * (g + 256 * h)))))))
    (hy : y = x + x / 256) (hz : z = y + y / 65536) (hw : w = z + z / 4294967296) : w % 128 = a + b + c + d + e + f + g + h := by
  obtain ⟨X6, h6⟩ : ∃ X, X = g + 256 * h := ⟨_, rfl⟩
  obtain ⟨X5, h5⟩ : ∃ X, X = f + 256 * X6 := ⟨_, rfl⟩
  obtain ⟨X4, h4⟩ : ∃ X, X = e + 256 * X5 := ⟨_, rfl⟩
  obtain ⟨X3, h3⟩ : ∃ X, X = d + 256 * X4 := ⟨_, rfl⟩
  obtain ⟨X2, h2⟩ : ∃ X, X = c + 256 * X3 := ⟨_, rfl⟩
  obtain ⟨X1, h1⟩ : ∃ X, X = b + 256 * X2 := ⟨_, rfl⟩
  rw [← h6, ← h5, ← h4, ← h3, ← h2, ← h1] at hx
  have e1 : x / 256 = X1 := by omega
  rw [e1] at hy
  obtain ⟨Y6, k6⟩ : ∃ Y, Y = (g + h) + 256 * h := ⟨_, rfl⟩
  obtain ⟨Y5, k5⟩ : ∃ Y, Y = (f + g) + 256 * Y6 := ⟨_, rfl⟩
  obtain ⟨Y4, k4⟩ : ∃ Y, Y = (e + f) + 256 * Y5 := ⟨_, rfl⟩
  obtain ⟨Y3, k3⟩ : ∃ Y, Y = (d + e) + 256 * Y4 := ⟨_, rfl⟩
  obtain ⟨Y2, k2⟩ : ∃ Y, Y = (c + d) + 256 * Y3 := ⟨_, rfl⟩
  obtain ⟨Y1, k1⟩ : ∃ Y, Y = (b + c) + 256 * Y2 := ⟨_, rfl⟩
  have y6 : Y6 = X6 + h := by omega
  have y5 : Y5 = X5 + X6 := by omega
  have y4 : Y4 = X4 + X5 := by omega
  have y3 : Y3 = X3 + X4 := by omega
  have y2 : Y2 = X2 + X3 := by omega
  have y1 : Y1 = X1 + X2 := by omega
  have y0 : y = (a + b) + 256 * Y1 := by omega
  have e3 : y / 65536 = Y2 := by
    clear y1 y2 y3 y4 y5 y6 h1 h2 h3 h4 h5 h6 hx hy e1 k2 k3 k4 k5 k6 hz hw
    omega
  rw [e3] at hz
  clear y1 y2 y3 y4 y5 y6 h1 h2 h3 h4 h5 h6 hx hy e1 e3
  obtain ⟨Z5, z5⟩ : ∃ Z, Z = (f + g + h) + 256 * ((g + h) + 256 * h) := ⟨_, rfl⟩
  obtain ⟨Z4, z4⟩ : ∃ Z, Z = (e + f + g + h) + 256 * Z5 := ⟨_, rfl⟩
  obtain ⟨Z3, z3⟩ : ∃ Z, Z = (d + e + f + g) + 256 * Z4 := ⟨_, rfl⟩
  obtain ⟨Z2, z2⟩ : ∃ Z, Z = (c + d + e + f) + 256 * Z3 := ⟨_, rfl⟩
  obtain ⟨Z1, z1⟩ : ∃ Z, Z = (b + c + d + e) + 256 * Z2 := ⟨_, rfl⟩
  have u5 : Z5 = Y5 + h := by omega
  have u4 : Z4 = Y4 + Y6 := by omega
  have u3 : Z3 = Y3 + Y5 := by omega
  have u2 : Z2 = Y2 + Y4 := by omega
  have u1 : Z1 = Y1 + Y3 := by omega
  have u0 : z = (a + b + c + d) + 256 * Z1 := by omega
  clear u1 u2 u3 u4 u5 k1 k2 k3 k4 k5 k6 y0 hz
  have e5 : z / 4294967296 = Z4 := by
    clear hw z4 z5
    subst z3 z2 z1
    omega
  rw [e5] at hw
  clear e5 z1 z2 z3 z5
  omega
