/-- what a set of states (3 bits) becomes by a relation (9 bits, 3 p + q for p to q) -/
def img (s y : Nat) : Nat := (if s.testBit 0 then y % 8 else 0) ||| (if s.testBit 1 then y / 8 % 8 else 0) ||| (if s.testBit 2 then y / 64 % 8 else 0)
/-- one relation behind another one -/
def thn3 (x y : Nat) : Nat := img x y + 8 * img (x / 8) y + 64 * img (x / 64) y
/-- two relations at once: 18 bits -/
def thn (x y : Nat) : Nat := thn3 x y + 512 * thn3 (x / 512) (y / 512)
/-- two sets at once: 6 bits -/
def imc (c x : Nat) : Nat := img c x + 8 * img (c / 8) (x / 512)
theorem or_lt8 {a b : Nat} (ha : a < 8) (hb : b < 8) : a ||| b < 8 := Nat.or_lt_two_pow (n := 3) ha hb
theorem or_lt512 {a b : Nat} (ha : a < 512) (hb : b < 512) : a ||| b < 512 := Nat.or_lt_two_pow (n := 9) ha hb
theorem img_lt (s y : Nat) : img s y < 8 := by
  unfold img
  refine or_lt8 (or_lt8 ?_ ?_) ?_ <;> split <;> omega
theorem thn3_lt (x y : Nat) : thn3 x y < 512 := by
  have := img_lt x y; have := img_lt (x / 8) y; have := img_lt (x / 64) y
  unfold thn3; omega
theorem thn_lt (x y : Nat) : thn x y < 262144 := by
  have := thn3_lt x y; have := thn3_lt (x / 512) (y / 512)
  unfold thn; omega
theorem imc_lt (c x : Nat) : imc c x < 64 := by
  have := img_lt c x; have := img_lt (c / 8) (x / 512)
  unfold imc; omega
theorem thn3_d0 (x y : Nat) : thn3 x y % 8 = img x y := by
  have := img_lt x y; have := img_lt (x / 8) y; have := img_lt (x / 64) y
  unfold thn3; omega
theorem thn3_d1 (x y : Nat) : thn3 x y / 8 % 8 = img (x / 8) y := by
  have := img_lt x y; have := img_lt (x / 8) y; have := img_lt (x / 64) y
  unfold thn3; omega
theorem thn3_d2 (x y : Nat) : thn3 x y / 64 % 8 = img (x / 64) y := by
  have := img_lt x y; have := img_lt (x / 8) y; have := img_lt (x / 64) y
  unfold thn3; omega
theorem img_mod (s y : Nat) : img (s % 8) y = img s y := by
  have h0 : (s % 8).testBit 0 = s.testBit 0 := by rw [show 8 = 2 ^ 3 from rfl, Nat.testBit_mod_two_pow]; simp
  have h1 : (s % 8).testBit 1 = s.testBit 1 := by rw [show 8 = 2 ^ 3 from rfl, Nat.testBit_mod_two_pow]; simp
  have h2 : (s % 8).testBit 2 = s.testBit 2 := by rw [show 8 = 2 ^ 3 from rfl, Nat.testBit_mod_two_pow]; simp
  unfold img; rw [h0, h1, h2]
theorem img_mody (s y : Nat) : img s (y % 512) = img s y := by
  unfold img
  rw [show y % 512 % 8 = y % 8 from by omega, show y % 512 / 8 % 8 = y / 8 % 8 from by omega, show y % 512 / 64 % 8 = y / 64 % 8 from by omega]
theorem img_0 (y : Nat) : img 0 y = 0 := by simp [img]
theorem img_y0 (s : Nat) : img s 0 = 0 := by simp [img]
theorem ifor {a b : Bool} {z : Nat} : (if (a || b) = true then z else 0) = (if a then z else 0) ||| (if b then z else 0) := by
  cases a <;> cases b <;> simp
theorem or_ac (a b c d e f : Nat) : a ||| b ||| (c ||| d) ||| (e ||| f) = a ||| c ||| e ||| (b ||| d ||| f) := by
  apply Nat.eq_of_testBit_eq; intro i
  simp only [Nat.testBit_or]
  cases a.testBit i <;> cases b.testBit i <;> cases c.testBit i <;> cases d.testBit i <;> cases e.testBit i <;> cases f.testBit i <;> rfl
theorem img_or (a b y : Nat) : img (a ||| b) y = img a y ||| img b y := by
  unfold img
  simp only [Nat.testBit_or, ifor]
  exact or_ac _ _ _ _ _ _
theorem img_ite (c : Bool) (a y : Nat) : img (if c then a else 0) y = if c then img a y else 0 := by
  cases c
  · simp [img_0]
  · simp
/-- the action: a set by one relation and then by another one -/
theorem img_thn3 (s x y : Nat) : img (img s x) y = img s (thn3 x y) := by
  show img ((if s.testBit 0 then x % 8 else 0) ||| (if s.testBit 1 then x / 8 % 8 else 0) ||| (if s.testBit 2 then x / 64 % 8 else 0)) y = _
  rw [img_or, img_or, img_ite, img_ite, img_ite]
  rw [img_mod, img_mod, img_mod]
  show _ = (if s.testBit 0 then thn3 x y % 8 else 0) ||| (if s.testBit 1 then thn3 x y / 8 % 8 else 0) ||| (if s.testBit 2 then thn3 x y / 64 % 8 else 0)
  rw [thn3_d0, thn3_d1, thn3_d2]
theorem thn3_assoc (x y z : Nat) : thn3 (thn3 x y) z = thn3 x (thn3 y z) := by
  show img (thn3 x y) z + 8 * img (thn3 x y / 8) z + 64 * img (thn3 x y / 64) z = img x (thn3 y z) + 8 * img (x / 8) (thn3 y z) + 64 * img (x / 64) (thn3 y z)
  rw [← img_thn3, ← img_thn3, ← img_thn3, ← thn3_d0 x y, ← thn3_d1 x y, ← thn3_d2 x y, img_mod, img_mod, img_mod]
theorem thn3_mod (x y : Nat) : thn3 (x % 512) (y % 512) = thn3 x y := by
  unfold thn3
  rw [img_mody, img_mody, img_mody, ← img_mod (x % 512), ← img_mod (x % 512 / 8), ← img_mod (x % 512 / 64)]
  rw [show x % 512 % 8 = x % 8 from by omega, show x % 512 / 8 % 8 = x / 8 % 8 from by omega, show x % 512 / 64 % 8 = x / 64 % 8 from by omega, img_mod, img_mod, img_mod]
theorem thn3_modl (x y : Nat) : thn3 (x % 512) y = thn3 x y := by rw [← thn3_mod, Nat.mod_mod, thn3_mod]
theorem thn3_modr (x y : Nat) : thn3 x (y % 512) = thn3 x y := by rw [← thn3_mod, Nat.mod_mod, thn3_mod]
theorem thn3_0 (y : Nat) : thn3 0 y = 0 := by simp [thn3, img_0]
theorem thn3_y0 (x : Nat) : thn3 x 0 = 0 := by simp [thn3, img_y0]
theorem thn_mod (x y : Nat) : thn x y % 512 = thn3 x y := by
  have := thn3_lt x y
  unfold thn; omega
theorem thn_div (x y : Nat) : thn x y / 512 = thn3 (x / 512) (y / 512) := by
  have := thn3_lt x y; have := thn3_lt (x / 512) (y / 512)
  unfold thn; omega
theorem thn_assoc (x y z : Nat) : thn (thn x y) z = thn x (thn y z) := by
  show thn3 (thn x y) z + 512 * thn3 (thn x y / 512) (z / 512) = thn3 x (thn y z) + 512 * thn3 (x / 512) (thn y z / 512)
  rw [thn_div, thn_div, thn3_assoc, ← thn3_modl, thn_mod, thn3_assoc, ← thn3_modr x (thn y z), thn_mod]
theorem imc_mod (c x : Nat) : imc c x % 8 = img c x := by
  have := img_lt c x
  unfold imc; omega
theorem imc_div (c x : Nat) : imc c x / 8 = img (c / 8) (x / 512) := by
  have := img_lt c x
  unfold imc; omega
theorem imc_thn (c x y : Nat) : imc (imc c x) y = imc c (thn x y) := by
  show img (imc c x) y + 8 * img (imc c x / 8) (y / 512) = img c (thn x y) + 8 * img (c / 8) (thn x y / 512)
  rw [imc_div, thn_div, img_thn3, ← img_mod, imc_mod, img_thn3, ← img_mody c (thn x y), thn_mod]
/-- the identity of n states -/
def idn (n : Nat) : Nat := if n = 1 then 1 else if n = 2 then 17 else if n = 3 then 273 else 0
theorem idn_lt (n : Nat) : idn n < 512 := by unfold idn; split <;> (try split) <;> (try split) <;> omega
/-- a relation of n states alone -/
def Rn (n x : Nat) : Prop := x < 512 ∧ thn3 (idn n) x = x ∧ thn3 x (idn n) = x
/-- a set of n states alone -/
def Sn (n s : Nat) : Prop := s < 8 ∧ img s (idn n) = s
theorem Rn_thn3 {n x y : Nat} (hx : Rn n x) (hy : Rn n y) : Rn n (thn3 x y) :=
  ⟨thn3_lt _ _, by rw [← thn3_assoc, hx.2.1], by rw [thn3_assoc, hy.2.2]⟩
theorem Sn_img {n s x : Nat} (hx : Rn n x) : Sn n (img s x) := ⟨img_lt _ _, by rw [img_thn3, hx.2.2]⟩
theorem Rn_0 (n : Nat) : Rn n 0 := ⟨by omega, thn3_y0 _, thn3_0 _⟩
theorem idn_idem (n : Nat) : thn3 (idn n) (idn n) = idn n := by
  unfold idn
  split
  · decide
  · split
    · decide
    · split <;> decide
theorem Rn_id (n : Nat) : Rn n (idn n) := ⟨idn_lt n, idn_idem n, idn_idem n⟩
theorem img_yor (s x y : Nat) : img s (x ||| y) = img s x ||| img s y := by
  have h0 : (x ||| y) % 8 = x % 8 ||| y % 8 := Nat.or_mod_two_pow (n := 3)
  have h1 : (x ||| y) / 8 % 8 = x / 8 % 8 ||| y / 8 % 8 := by rw [Nat.or_div_two_pow (n := 3)]; exact Nat.or_mod_two_pow (n := 3)
  have h2 : (x ||| y) / 64 % 8 = x / 64 % 8 ||| y / 64 % 8 := by rw [Nat.or_div_two_pow (n := 6)]; exact Nat.or_mod_two_pow (n := 3)
  unfold img
  rw [h0, h1, h2]
  have e : ∀ (c : Bool) (a b : Nat), (if c then a ||| b else 0) = (if c then a else 0) ||| (if c then b else 0) := by intro c a b; cases c <;> simp
  rw [e, e, e]
  exact or_ac _ _ _ _ _ _
theorem or_dig {a b c d e f : Nat} (ha : a < 8) (hb : b < 8) (hc : c < 8) (hd : d < 8) (he : e < 8) (hf : f < 8) : (a + 8 * b + 64 * c) ||| (d + 8 * e + 64 * f) = (a ||| d) + 8 * (b ||| e) + 64 * (c ||| f) := by
  have A : ∀ x < 8, ∀ y < 8, ∀ z < 8, x + 8 * y + 64 * z = x ||| (y <<< 3) ||| (z <<< 6) := by decide +kernel
  have hl : ∀ x y : Nat, ∀ n, (x ||| y) <<< n = x <<< n ||| y <<< n := fun x y n => Nat.shiftLeft_or_distrib
  rw [A a ha b hb c hc, A d hd e he f hf, A _ (or_lt8 ha hd) _ (or_lt8 hb he) _ (or_lt8 hc hf), hl, hl]
  apply Nat.eq_of_testBit_eq; intro i
  simp only [Nat.testBit_or]
  cases a.testBit i <;> cases d.testBit i <;> cases (b <<< 3).testBit i <;> cases (e <<< 3).testBit i <;> cases (c <<< 6).testBit i <;> cases (f <<< 6).testBit i <;> rfl
theorem dig512 {x : Nat} (h : x < 512) : x = x % 8 + 8 * (x / 8 % 8) + 64 * (x / 64 % 8) := by omega
theorem or_d {x y : Nat} (hx : x < 512) (hy : y < 512) : x ||| y = (x % 8 ||| y % 8) + 8 * (x / 8 % 8 ||| y / 8 % 8) + 64 * (x / 64 % 8 ||| y / 64 % 8) := by
  have h1 := dig512 hx
  have h2 := dig512 hy
  have h3 := or_dig (a := x % 8) (b := x / 8 % 8) (c := x / 64 % 8) (d := y % 8) (e := y / 8 % 8) (f := y / 64 % 8) (by omega) (by omega) (by omega) (by omega) (by omega) (by omega)
  rw [← h1, ← h2] at h3
  exact h3
theorem thn3_yor (x y z : Nat) : thn3 x (y ||| z) = thn3 x y ||| thn3 x z := by
  rw [or_d (thn3_lt x y) (thn3_lt x z), thn3_d0, thn3_d1, thn3_d2, thn3_d0, thn3_d1, thn3_d2, ← img_yor, ← img_yor, ← img_yor]
  rfl
theorem thn3_or (x y z : Nat) : thn3 (x ||| y) z = thn3 x z ||| thn3 y z := by
  rw [or_d (thn3_lt x z) (thn3_lt y z), thn3_d0, thn3_d1, thn3_d2, thn3_d0, thn3_d1, thn3_d2, ← img_or, ← img_or, ← img_or]
  show img (x ||| y) z + 8 * img ((x ||| y) / 8) z + 64 * img ((x ||| y) / 64) z = _
  rw [show (x ||| y) / 8 = x / 8 ||| y / 8 from Nat.or_div_two_pow (n := 3), show (x ||| y) / 64 = x / 64 ||| y / 64 from Nat.or_div_two_pow (n := 6)]
theorem Rn_or {n x y : Nat} (hx : Rn n x) (hy : Rn n y) : Rn n (x ||| y) :=
  ⟨or_lt512 hx.1 hy.1, by rw [thn3_yor, hx.2.1, hy.2.1], by rw [thn3_or, hx.2.2, hy.2.2]⟩
theorem Sn_or {n s t : Nat} (hs : Sn n s) (ht : Sn n t) : Sn n (s ||| t) :=
  ⟨or_lt8 hs.1 ht.1, by rw [img_or, hs.2, ht.2]⟩
theorem Sn_0 (n : Nat) : Sn n 0 := ⟨by omega, img_0 _⟩
theorem Sn_1 {n : Nat} (h1 : 1 ≤ n) (h3 : n ≤ 3) : Sn n 1 := by
  refine ⟨by omega, ?_⟩
  have : n = 1 ∨ n = 2 ∨ n = 3 := by omega
  rcases this with rfl | rfl | rfl <;> decide
theorem Rn_pair : ∀ n, n < 4 → ∀ p, p < n → ∀ q, q < n → thn3 (idn n) (2 ^ (3 * p + q)) = 2 ^ (3 * p + q) ∧ thn3 (2 ^ (3 * p + q)) (idn n) = 2 ^ (3 * p + q) ∧ 2 ^ (3 * p + q) < 512 := by decide +kernel
theorem Rn_p {n p q : Nat} (h3 : n ≤ 3) (hp : p < n) (hq : q < n) : Rn n (2 ^ (3 * p + q)) :=
  ⟨(Rn_pair n (by omega) p hp q hq).2.2, (Rn_pair n (by omega) p hp q hq).1, (Rn_pair n (by omega) p hp q hq).2.1⟩
