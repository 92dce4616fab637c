def orN (g : Nat → Nat) : Nat → Nat
  | 0 => 0
  | n + 1 => orN g n ||| g n
theorem imgd (s x : Nat) : img s x = (if s.testBit 0 then rw3 x 0 else 0) ||| (if s.testBit 1 then rw3 x 1 else 0) ||| (if s.testBit 2 then rw3 x 2 else 0) := by
  unfold img rw3; simp only [Nat.pow_zero, Nat.div_one, Nat.pow_one, Nat.reducePow]
theorem rw3_thn3 {x y p : Nat} (hp : p < 3) : rw3 (thn3 x y) p = img (rw3 x p) y := by
  have h : p = 0 ∨ p = 1 ∨ p = 2 := by omega
  unfold rw3
  rw [img_mod]
  rcases h with rfl | rfl | rfl
  · rw [Nat.pow_zero, Nat.div_one, Nat.div_one]; exact thn3_d0 x y
  · exact thn3_d1 x y
  · exact thn3_d2 x y
theorem rw3_orr {x y p : Nat} : rw3 (x ||| y) p = rw3 x p ||| rw3 y p := by
  unfold rw3
  rw [show 8 ^ p = 2 ^ (3 * p) from by rw [Nat.pow_mul], Nat.or_div_two_pow]
  exact Nat.or_mod_two_pow (n := 3)
theorem dig3 {x : Nat} (h : x < 512) : rw3 x 0 + 8 * rw3 x 1 + 64 * rw3 x 2 = x := by
  unfold rw3; simp only [Nat.pow_zero, Nat.div_one, Nat.pow_one, Nat.reducePow]; omega
theorem or3 : ∀ a, a < 8 → ∀ b, b < 8 → ∀ c, c < 8 → ((a ||| b * 8) ||| c * 64) = a + 8 * b + 64 * c := by decide +kernel
theorem or_mul512 {x y : Nat} (hx : x < 512) : x ||| y * 512 = x + 512 * y := by
  have h := Nat.two_pow_add_eq_or_of_lt (i := 9) hx y
  have e : (2 : Nat) ^ 9 = 512 := rfl
  rw [e] at h
  rw [Nat.or_comm, Nat.mul_comm, ← h, Nat.add_comm]
theorem or_mul8 {x y : Nat} (hx : x < 8) : x ||| y * 8 = x + 8 * y := by
  have h := Nat.two_pow_add_eq_or_of_lt (i := 3) hx y
  have e : (2 : Nat) ^ 3 = 8 := rfl
  rw [e] at h
  rw [Nat.or_comm, Nat.mul_comm, ← h, Nat.add_comm]
theorem or_mulr (a b n : Nat) : (a ||| b) * 2 ^ n = a * 2 ^ n ||| b * 2 ^ n := by
  rw [← Nat.shiftLeft_eq, ← Nat.shiftLeft_eq, ← Nat.shiftLeft_eq]; exact Nat.shiftLeft_or_distrib
/-- six rows of three bits are two relations -/
theorem dig6 {a b c d e f : Nat} (ha : a < 8) (hb : b < 8) (hc : c < 8) (hd : d < 8) (he : e < 8) (hf : f < 8) :
    ((((((0 ||| a * 2 ^ 0) ||| b * 2 ^ 3) ||| c * 2 ^ 6) ||| d * 2 ^ 9) ||| e * 2 ^ 12) ||| f * 2 ^ 15) = (a + 8 * b + 64 * c) + 512 * (d + 8 * e + 64 * f) := by
  rw [← or3 a ha b hb c hc, ← or3 d hd e he f hf, ← or_mul512 (by rw [or3 a ha b hb c hc]; omega)]
  rw [show (512 : Nat) = 2 ^ 9 from rfl, or_mulr, or_mulr]
  rw [show e * 8 * 2 ^ 9 = e * 2 ^ 12 from by omega, show f * 64 * 2 ^ 9 = f * 2 ^ 15 from by omega, show (2 : Nat) ^ 0 = 1 from rfl, Nat.mul_one, Nat.zero_or, show (2 : Nat) ^ 3 = 8 from rfl, show (2 : Nat) ^ 6 = 64 from rfl]
  simp only [Nat.or_assoc]
/-- is reader r among those asked for -/
def hasR (wh r : Nat) : Bool := wh == 2 || wh == r
def cm2 (wh a b : Nat) : Nat := (if hasR wh 0 then a else 0) + 512 * (if hasR wh 1 then b else 0)
def cs2 (wh a b : Nat) : Nat := (if hasR wh 0 then a else 0) + 8 * (if hasR wh 1 then b else 0)
theorem cm2_lt {wh a b : Nat} (ha : a < 512) (hb : b < 512) : cm2 wh a b < 262144 := by
  unfold cm2; split <;> split <;> omega
theorem cs2_lt {wh a b : Nat} (ha : a < 8) (hb : b < 8) : cs2 wh a b < 64 := by
  unfold cs2; split <;> split <;> omega
theorem q_isOf {wh r : Nat} (hw : wh < 3) (hr : r < 2) {K : Int32 → Prop} (h : K (nI (if hasR wh r then 1 else 0))) : wX12_isOf (nI wh) (nI r) K := by
  have h1 : wh = 0 ∨ wh = 1 ∨ wh = 2 := by omega
  have h2 : r = 0 ∨ r = 1 := by omega
  unfold wX12_isOf
  rcases h1 with rfl | rfl | rfl <;> rcases h2 with rfl | rfl <;>
  · simp (disch := omega) only [q_lit, nI_add, pk_mul, q_a1, q_a3, q_a7, q_a31, q_a63, q_a255, q_a511, q_or, q_shr, q_shl, q_le, q_lt, q_eq, q_in, q_cl, q_neg, q_neg', q_nlt0, q_nle, q_nlt, q_nle', q_nlt', forall_eq, true_implies, false_implies, not_true_eq_false, not_false_eq_true, and_true, true_and, Nat.reduceMod, Nat.reducePow, Nat.reduceAdd, Nat.reduceMul, Nat.reduceDiv, Nat.reduceSub, Nat.reduceEqDiff, Nat.reduceLeDiff, Nat.reduceLT]
    exact h
theorem q_bit {x k : Nat} (hx : x < 2147483648) (hk : k < 32) : (nI x >>> nI k) &&& nI 1 = nI (if x.testBit k then 1 else 0) := by
  rw [q_shr hx hk, q_a1]
  congr 1
  rw [Nat.testBit_eq_decide_div_mod_eq]
  have := Nat.mod_two_eq_zero_or_one (x / 2 ^ k)
  rcases this with g | g <;> simp [g]
theorem q_bit2 {x k : Nat} : nI (x / 2 ^ k) &&& nI 1 = nI (if x.testBit k then 1 else 0) := by
  rw [q_a1]
  congr 1
  rw [Nat.testBit_eq_decide_div_mod_eq]
  have := Nat.mod_two_eq_zero_or_one (x / 2 ^ k)
  rcases this with g | g <;> simp [g]
theorem q_one0 : (nI 0 = nI 1) ↔ False := by decide
theorem q_one1 : (nI 1 = nI 1) ↔ True := by decide
theorem q_one2 : (nI 1 = nI 0) ↔ False := by decide
theorem q_follow {x y : Nat} (hx : x < 262144) (hy : y < 262144) {K : Int32 → Prop} (h : K (nI (thn x y))) : wX12_follow (nI x) (nI y) K := by
  obtain ⟨g, eg⟩ : ∃ g : Nat → Nat, g = fun k => (if x.testBit k then (y / 2 ^ (k / 9 * 9 + 3 * (k % 3)) % 8) * 2 ^ (k / 9 * 9 + 3 * (k % 9 / 3)) else 0) := ⟨_, rfl⟩
  obtain ⟨V, V0, VS⟩ : ∃ V : Nat → Nat, V 0 = 0 ∧ ∀ k, V (k + 1) = V k ||| g k := ⟨orN g, rfl, fun _ => rfl⟩
  have fin : V 18 = thn x y := by
    rw [VS, VS, VS, VS, VS, VS, VS, VS, VS, VS, VS, VS, VS, VS, VS, VS, VS, VS, V0]
    have e : ∀ (u v w : Bool) (A B C n : Nat), ((if u then A * 2 ^ n else 0) ||| (if v then B * 2 ^ n else 0) ||| (if w then C * 2 ^ n else 0)) = ((if u then A else 0) ||| (if v then B else 0) ||| (if w then C else 0)) * 2 ^ n := by
      intro u v w A B C n
      rw [or_mulr, or_mulr]
      cases u <;> cases v <;> cases w <;> simp
    have tb : ∀ k j, (x / 2 ^ k).testBit j = x.testBit (k + j) := fun k j => by rw [Nat.testBit_div_two_pow]; congr 1; omega
    have i0 : img x y = ((if x.testBit 0 then y / 2 ^ 0 % 8 else 0) ||| (if x.testBit 1 then y / 2 ^ 3 % 8 else 0) ||| (if x.testBit 2 then y / 2 ^ 6 % 8 else 0)) := by
      simp only [img, Nat.pow_zero, Nat.div_one, Nat.reducePow]
    have i1 : img (x / 8) y = ((if x.testBit 3 then y / 2 ^ 0 % 8 else 0) ||| (if x.testBit 4 then y / 2 ^ 3 % 8 else 0) ||| (if x.testBit 5 then y / 2 ^ 6 % 8 else 0)) := by
      simp only [img, show (8 : Nat) = 2 ^ 3 from rfl, tb]
      simp only [Nat.pow_zero, Nat.div_one, Nat.reducePow, Nat.reduceAdd]
    have i2 : img (x / 64) y = ((if x.testBit 6 then y / 2 ^ 0 % 8 else 0) ||| (if x.testBit 7 then y / 2 ^ 3 % 8 else 0) ||| (if x.testBit 8 then y / 2 ^ 6 % 8 else 0)) := by
      simp only [img, show (64 : Nat) = 2 ^ 6 from rfl, tb]
      simp only [Nat.pow_zero, Nat.div_one, Nat.reducePow, Nat.reduceAdd]
    have j0 : img (x / 512) (y / 512) = ((if x.testBit 9 then y / 2 ^ 9 % 8 else 0) ||| (if x.testBit 10 then y / 2 ^ 12 % 8 else 0) ||| (if x.testBit 11 then y / 2 ^ 15 % 8 else 0)) := by
      simp only [img, show (512 : Nat) = 2 ^ 9 from rfl, tb]
      simp only [Nat.pow_zero, Nat.div_one, Nat.reducePow, Nat.reduceAdd, Nat.div_div_eq_div_mul, Nat.reduceMul]
    have j1 : img (x / 512 / 8) (y / 512) = ((if x.testBit 12 then y / 2 ^ 9 % 8 else 0) ||| (if x.testBit 13 then y / 2 ^ 12 % 8 else 0) ||| (if x.testBit 14 then y / 2 ^ 15 % 8 else 0)) := by
      simp only [Nat.div_div_eq_div_mul, Nat.reduceMul]
      simp only [img, show (4096 : Nat) = 2 ^ 12 from rfl, tb]
      simp only [Nat.pow_zero, Nat.div_one, Nat.reducePow, Nat.reduceAdd, Nat.div_div_eq_div_mul, Nat.reduceMul]
    have j2 : img (x / 512 / 64) (y / 512) = ((if x.testBit 15 then y / 2 ^ 9 % 8 else 0) ||| (if x.testBit 16 then y / 2 ^ 12 % 8 else 0) ||| (if x.testBit 17 then y / 2 ^ 15 % 8 else 0)) := by
      simp only [Nat.div_div_eq_div_mul, Nat.reduceMul]
      simp only [img, show (32768 : Nat) = 2 ^ 15 from rfl, tb]
      simp only [Nat.pow_zero, Nat.div_one, Nat.reducePow, Nat.reduceAdd, Nat.div_div_eq_div_mul, Nat.reduceMul]
    show _ = (img x y + 8 * img (x / 8) y + 64 * img (x / 64) y) + 512 * (img (x / 512) (y / 512) + 8 * img (x / 512 / 8) (y / 512) + 64 * img (x / 512 / 64) (y / 512))
    rw [← dig6 (img_lt _ _) (img_lt _ _) (img_lt _ _) (img_lt _ _) (img_lt _ _) (img_lt _ _)]
    rw [i0, i1, i2, j0, j1, j2, ← e, ← e, ← e, ← e, ← e, ← e]
    rw [eg]
    simp only [Nat.reduceDiv, Nat.reduceMod, Nat.reduceMul, Nat.reduceAdd, Nat.or_assoc]
  unfold wX12_follow wX12_follow_L4
  intro P hP
  rw [← fin] at h
  have hV : P (nI (V 0)) (nI 0) → P (nI 0) (nI 0) := by rw [V0]; exact id
  refine hV (q_cnt0 (Q := fun k => P (nI (V k)) (nI k)) 18 ?_ ?_)
  · refine hP _ _ ?_
    simp (disch := omega) only [q_lit, nI_add, pk_mul, q_a1, q_a3, q_a7, q_a31, q_a63, q_a255, q_a511, q_or, q_shr, q_shl, q_le, q_lt, q_eq, q_in, q_cl, q_neg, q_neg', q_nlt0, q_nle, q_nlt, q_nle', q_nlt', forall_eq, true_implies, false_implies, not_true_eq_false, not_false_eq_true, and_true, true_and, Nat.reduceMod, Nat.reducePow, Nat.reduceAdd, Nat.reduceMul, Nat.reduceDiv, Nat.reduceSub, Nat.reduceEqDiff, Nat.reduceLeDiff, Nat.reduceLT, Nat.le_refl]
    exact h
  · intro i hi ih
    refine hP _ _ ?_
    rw [VS, eg] at ih
    have hm : i - i / 9 * 9 = i % 9 := by omega
    have hm3 : i - i / 3 * 3 = i % 3 := by omega
    simp (disch := omega) only [q_lit, q_divN, pk_mul, q_remN', nI_add, q_a31, q_a7, q_shr, q_bit2, q_shl, q_or, forall_eq, q_le]
    rw [show i % 32 = i from by omega, show (i / 9 * 9 + 3 * (i % 3)) % 32 = i / 9 * 9 + 3 * (i % 3) from by omega, show (i / 9 * 9 + 3 * (i % 9 / 3)) % 32 = i / 9 * 9 + 3 * (i % 9 / 3) from by omega]
    refine ⟨fun g => absurd g (by omega), fun _ => ?_⟩
    cases hb : x.testBit i
    · simp only [hb, Bool.false_eq_true, if_false, q_one0, false_implies, not_false_eq_true, true_implies, true_and] at ih ⊢
      exact ih
    · simp only [hb, if_true, q_one1, true_implies, not_true_eq_false, false_implies, and_true] at ih ⊢
      exact ih
theorem q_imageM {c x : Nat} (hc : c < 64) (hx : x < 262144) {K : Int32 → Prop} (h : K (nI (imc c x))) : wX12_image (nI c) (nI x) K := by
  obtain ⟨g, eg⟩ : ∃ g : Nat → Nat, g = fun k => (if c.testBit k then (x / 2 ^ (k / 3 * 9 + 3 * (k % 3)) % 8) * 2 ^ (k / 3 * 3) else 0) := ⟨_, rfl⟩
  obtain ⟨V, V0, VS⟩ : ∃ V : Nat → Nat, V 0 = 0 ∧ ∀ k, V (k + 1) = V k ||| g k := ⟨orN g, rfl, fun _ => rfl⟩
  have fin : V 6 = imc c x := by
    rw [VS, VS, VS, VS, VS, VS, V0]
    have e : ∀ (u v w : Bool) (A B C n : Nat), ((if u then A * 2 ^ n else 0) ||| (if v then B * 2 ^ n else 0) ||| (if w then C * 2 ^ n else 0)) = ((if u then A else 0) ||| (if v then B else 0) ||| (if w then C else 0)) * 2 ^ n := by
      intro u v w A B C n
      rw [or_mulr, or_mulr]
      cases u <;> cases v <;> cases w <;> simp
    have tb : ∀ k j, (c / 2 ^ k).testBit j = c.testBit (k + j) := fun k j => by rw [Nat.testBit_div_two_pow]; congr 1; omega
    have i0 : img c x = ((if c.testBit 0 then x / 2 ^ 0 % 8 else 0) ||| (if c.testBit 1 then x / 2 ^ 3 % 8 else 0) ||| (if c.testBit 2 then x / 2 ^ 6 % 8 else 0)) := by
      simp only [img, Nat.pow_zero, Nat.div_one, Nat.reducePow]
    have j0 : img (c / 8) (x / 512) = ((if c.testBit 3 then x / 2 ^ 9 % 8 else 0) ||| (if c.testBit 4 then x / 2 ^ 12 % 8 else 0) ||| (if c.testBit 5 then x / 2 ^ 15 % 8 else 0)) := by
      simp only [img, show (8 : Nat) = 2 ^ 3 from rfl, tb]
      simp only [Nat.pow_zero, Nat.div_one, Nat.reducePow, Nat.reduceAdd, Nat.div_div_eq_div_mul, Nat.reduceMul]
    show _ = img c x + 8 * img (c / 8) (x / 512)
    rw [← or_mul8 (img_lt _ _), i0, j0, show (8 : Nat) = 2 ^ 3 from rfl, ← e]
    rw [eg]
    simp only [Nat.reduceDiv, Nat.reduceMod, Nat.reduceMul, Nat.reduceAdd, Nat.or_assoc, Nat.pow_zero, Nat.mul_one, Nat.zero_or]
  unfold wX12_image wX12_image_L4
  intro P hP
  rw [← fin] at h
  have hV : P (nI (V 0)) (nI 0) → P (nI 0) (nI 0) := by rw [V0]; exact id
  refine hV (q_cnt0 (Q := fun k => P (nI (V k)) (nI k)) 6 ?_ ?_)
  · refine hP _ _ ?_
    simp (disch := omega) only [q_lit, nI_add, pk_mul, q_a1, q_a3, q_a7, q_a31, q_a63, q_a255, q_a511, q_or, q_shr, q_shl, q_le, q_lt, q_eq, q_in, q_cl, q_neg, q_neg', q_nlt0, q_nle, q_nlt, q_nle', q_nlt', forall_eq, true_implies, false_implies, not_true_eq_false, not_false_eq_true, and_true, true_and, Nat.reduceMod, Nat.reducePow, Nat.reduceAdd, Nat.reduceMul, Nat.reduceDiv, Nat.reduceSub, Nat.reduceEqDiff, Nat.reduceLeDiff, Nat.reduceLT, Nat.le_refl]
    exact h
  · intro i hi ih
    refine hP _ _ ?_
    rw [VS, eg] at ih
    simp (disch := omega) only [q_lit, q_divN, pk_mul, q_remN', nI_add, q_a31, q_a7, q_shr, q_bit2, q_shl, q_or, forall_eq, q_le]
    rw [show i % 32 = i from by omega, show (i / 3 * 9 + 3 * (i % 3)) % 32 = i / 3 * 9 + 3 * (i % 3) from by omega, show (i / 3 * 3) % 32 = i / 3 * 3 from by omega]
    refine ⟨fun g => absurd g (by omega), fun _ => ?_⟩
    cases hb : c.testBit i
    · simp only [hb, Bool.false_eq_true, if_false, q_one0, false_implies, not_false_eq_true, true_implies, true_and] at ih ⊢
      exact ih
    · simp only [hb, if_true, q_one1, true_implies, not_true_eq_false, false_implies, and_true] at ih ⊢
      exact ih
theorem idn_s : ∀ k, k < 3 → idn k ||| 2 ^ (4 * k) = idn (k + 1) := by decide +kernel
theorem idn_0 : idn 0 = 0 := rfl
/-- the last step of the reference's loops over both readers: two relations at their places -/
theorem cm2_or {wh a b : Nat} (ha : a < 512) : ((0 ||| if hasR wh 0 = true then a * 2 ^ (9 * 0) else 0) ||| if hasR wh 1 = true then b * 2 ^ (9 * 1) else 0) = cm2 wh a b := by
  unfold cm2
  cases hasR wh 0 <;> cases hasR wh 1 <;> simp
  · omega
  · rw [or_mul512 ha]
theorem cs2_or {wh a b : Nat} (ha : a < 8) : ((0 ||| if hasR wh 0 = true then a * 2 ^ (3 * 0) else 0) ||| if hasR wh 1 = true then b * 2 ^ (3 * 1) else 0) = cs2 wh a b := by
  unfold cs2
  cases hasR wh 0 <;> cases hasR wh 1 <;> simp
  · omega
  · rw [or_mul8 ha]
theorem q_itself {wh n0 n1 : Nat} (hw : wh < 3) (h0 : n0 ≤ 3) (h1 : n1 ≤ 3) {st : Nat → Int32} (s0 : st 0 = nI n0) (s1 : st 1 = nI n1) {K : Int32 → Prop} (h : K (nI (cm2 wh (idn n0) (idn n1)))) : wX12_itself (nI wh) st K := by
  unfold wX12_itself wX12_itself_L4
  intro P hP
  have inner : ∀ (r n v : Nat) (E : Int32 → Int32 → Prop), r < 2 → n ≤ 3 → st r = nI n → (∀ p, E (nI (v ||| (if hasR wh r then idn n * 2 ^ (9 * r) else 0))) p) → wX12_itself_L12 (nI wh) st (nI r) E (nI v) (nI 0) := by
    intro r n v E hr hn hs hE
    unfold wX12_itself_L12
    intro P hP
    cases hh : hasR wh r
    · rw [hh] at hE
      refine hP _ _ ?_
      rw [q_cl (by omega), hs]
      simp (disch := omega) only [q_lit, nI_add, pk_mul, q_a1, q_a3, q_a7, q_a31, q_a63, q_a255, q_a511, q_or, q_shr, q_shl, q_le, q_lt, q_eq, q_in, q_cl, q_neg, q_neg', q_nlt0, q_nle, q_nlt, q_nle', q_nlt', forall_eq, true_implies, false_implies, not_true_eq_false, not_false_eq_true, and_true, true_and, Nat.reduceMod, Nat.reducePow, Nat.reduceAdd, Nat.reduceMul, Nat.reduceDiv, Nat.reduceSub, Nat.reduceEqDiff, Nat.reduceLeDiff, Nat.reduceLT]
      refine ⟨hr, fun _ => ?_, fun _ => q_isOf hw hr ?_⟩
      · have := hE (nI 0); simpa using this
      · rw [hh]
        simp only [Bool.false_eq_true, if_false, q_lit, nI_add, pk_mul, q_a1, q_a3, q_a7, q_a31, q_a63, q_a255, q_a511, q_or, q_shr, q_shl, q_le, q_lt, q_eq, q_in, q_cl, q_neg, q_neg', q_nlt0, q_nle, q_nlt, q_nle', q_nlt', forall_eq, true_implies, false_implies, not_true_eq_false, not_false_eq_true, and_true, true_and, Nat.reduceMod, Nat.reducePow, Nat.reduceAdd, Nat.reduceMul, Nat.reduceDiv, Nat.reduceSub, Nat.reduceEqDiff, Nat.reduceLeDiff, Nat.reduceLT]
        have := hE (nI 0); simpa using this
    · rw [hh] at hE
      simp only [if_true] at hE
      have hv : P (nI (v ||| idn 0 * 2 ^ (9 * r))) (nI 0) → P (nI v) (nI 0) := by rw [idn_0, Nat.zero_mul, Nat.or_zero]; exact id
      refine hv (q_cnt0 (Q := fun p => P (nI (v ||| idn p * 2 ^ (9 * r))) (nI p)) n ?_ ?_)
      · refine hP _ _ ?_
        rw [q_cl (by omega), hs]
        simp (disch := omega) only [q_lit, nI_add, pk_mul, q_a1, q_a3, q_a7, q_a31, q_a63, q_a255, q_a511, q_or, q_shr, q_shl, q_le, q_lt, q_eq, q_in, q_cl, q_neg, q_neg', q_nlt0, q_nle, q_nlt, q_nle', q_nlt', forall_eq, true_implies, false_implies, not_true_eq_false, not_false_eq_true, and_true, true_and, Nat.reduceMod, Nat.reducePow, Nat.reduceAdd, Nat.reduceMul, Nat.reduceDiv, Nat.reduceSub, Nat.reduceEqDiff, Nat.reduceLeDiff, Nat.reduceLT, Nat.le_refl]
        exact ⟨hr, hE _⟩
      · intro p hp ih
        refine hP _ _ ?_
        rw [q_cl (by omega), hs]
        simp (disch := omega) only [q_lit, nI_add, pk_mul, q_a1, q_a3, q_a7, q_a31, q_a63, q_a255, q_a511, q_or, q_shr, q_shl, q_le, q_lt, q_eq, q_in, q_cl, q_neg, q_neg', q_nlt0, q_nle, q_nlt, q_nle', q_nlt', forall_eq, true_implies, false_implies, not_true_eq_false, not_false_eq_true, and_true, true_and, Nat.reduceMod, Nat.reducePow, Nat.reduceAdd, Nat.reduceMul, Nat.reduceDiv, Nat.reduceSub, Nat.reduceEqDiff, Nat.reduceLeDiff, Nat.reduceLT]
        refine ⟨hr, fun g => absurd g (by omega), fun _ => q_isOf hw hr ?_⟩
        rw [hh]
        simp (disch := omega) only [if_true, q_lit, nI_add, pk_mul, q_a1, q_a3, q_a7, q_a31, q_a63, q_a255, q_a511, q_or, q_shr, q_shl, q_le, q_lt, q_eq, q_in, q_cl, q_neg, q_neg', q_nlt0, q_nle, q_nlt, q_nle', q_nlt', forall_eq, true_implies, false_implies, not_true_eq_false, not_false_eq_true, and_true, true_and, Nat.reduceMod, Nat.reducePow, Nat.reduceAdd, Nat.reduceMul, Nat.reduceDiv, Nat.reduceSub, Nat.reduceEqDiff, Nat.reduceLeDiff, Nat.reduceLT, q_one2, Nat.one_mul]
        rw [show (9 * r + 4 * p) % 32 = 4 * p + 9 * r from by omega, Nat.pow_add, Nat.or_assoc, ← or_mulr, idn_s p (by omega)]
        exact ih
  refine hP _ _ ?_
  simp (disch := omega) only [q_lit, nI_add, pk_mul, q_a1, q_a3, q_a7, q_a31, q_a63, q_a255, q_a511, q_or, q_shr, q_shl, q_le, q_lt, q_eq, q_in, q_cl, q_neg, q_neg', q_nlt0, q_nle, q_nlt, q_nle', q_nlt', forall_eq, true_implies, false_implies, not_true_eq_false, not_false_eq_true, and_true, true_and, Nat.reduceMod, Nat.reducePow, Nat.reduceAdd, Nat.reduceMul, Nat.reduceDiv, Nat.reduceSub, Nat.reduceEqDiff, Nat.reduceLeDiff, Nat.reduceLT]
  intro E hE
  refine inner 0 n0 0 E (by omega) h0 s0 (fun p => hE _ _ ?_)
  simp (disch := omega) only [q_lit, nI_add, pk_mul, q_a1, q_a3, q_a7, q_a31, q_a63, q_a255, q_a511, q_or, q_shr, q_shl, q_le, q_lt, q_eq, q_in, q_cl, q_neg, q_neg', q_nlt0, q_nle, q_nlt, q_nle', q_nlt', forall_eq, true_implies, false_implies, not_true_eq_false, not_false_eq_true, and_true, true_and, Nat.reduceMod, Nat.reducePow, Nat.reduceAdd, Nat.reduceMul, Nat.reduceDiv, Nat.reduceSub, Nat.reduceEqDiff, Nat.reduceLeDiff, Nat.reduceLT]
  refine hP _ _ ?_
  simp (disch := omega) only [q_lit, nI_add, pk_mul, q_a1, q_a3, q_a7, q_a31, q_a63, q_a255, q_a511, q_or, q_shr, q_shl, q_le, q_lt, q_eq, q_in, q_cl, q_neg, q_neg', q_nlt0, q_nle, q_nlt, q_nle', q_nlt', forall_eq, true_implies, false_implies, not_true_eq_false, not_false_eq_true, and_true, true_and, Nat.reduceMod, Nat.reducePow, Nat.reduceAdd, Nat.reduceMul, Nat.reduceDiv, Nat.reduceSub, Nat.reduceEqDiff, Nat.reduceLeDiff, Nat.reduceLT]
  intro E hE
  refine inner 1 n1 _ E (by omega) h1 s1 (fun p => hE _ _ ?_)
  simp (disch := omega) only [q_lit, nI_add, pk_mul, q_a1, q_a3, q_a7, q_a31, q_a63, q_a255, q_a511, q_or, q_shr, q_shl, q_le, q_lt, q_eq, q_in, q_cl, q_neg, q_neg', q_nlt0, q_nle, q_nlt, q_nle', q_nlt', forall_eq, true_implies, false_implies, not_true_eq_false, not_false_eq_true, and_true, true_and, Nat.reduceMod, Nat.reducePow, Nat.reduceAdd, Nat.reduceMul, Nat.reduceDiv, Nat.reduceSub, Nat.reduceEqDiff, Nat.reduceLeDiff, Nat.reduceLT]
  refine hP _ _ ?_
  simp (disch := omega) only [q_lit, nI_add, pk_mul, q_a1, q_a3, q_a7, q_a31, q_a63, q_a255, q_a511, q_or, q_shr, q_shl, q_le, q_lt, q_eq, q_in, q_cl, q_neg, q_neg', q_nlt0, q_nle, q_nlt, q_nle', q_nlt', forall_eq, true_implies, false_implies, not_true_eq_false, not_false_eq_true, and_true, true_and, Nat.reduceMod, Nat.reducePow, Nat.reduceAdd, Nat.reduceMul, Nat.reduceDiv, Nat.reduceSub, Nat.reduceEqDiff, Nat.reduceLeDiff, Nat.reduceLT, Nat.le_refl]
  have e := cm2_or (wh := wh) (b := idn n1) (idn_lt n0)
  rw [e]; exact h
theorem dig_p {x : Nat} (h : x < 512) (n : Nat) : ((rw3 x 0 * 2 ^ (n + 3 * 0)) ||| (rw3 x 1 * 2 ^ (n + 3 * 1))) ||| (rw3 x 2 * 2 ^ (n + 3 * 2)) = x * 2 ^ n := by
  have := or3 (rw3 x 0) (rw3_lt _ _) (rw3 x 1) (rw3_lt _ _) (rw3 x 2) (rw3_lt _ _)
  rw [dig3 h] at this
  conv => rhs; rw [← this]
  rw [or_mulr, or_mulr, Nat.pow_add, Nat.pow_add, Nat.pow_add]
  rw [show rw3 x 1 * (2 ^ n * 2 ^ (3 * 1)) = rw3 x 1 * 8 * 2 ^ n from by rw [Nat.mul_comm (2 ^ n), ← Nat.mul_assoc], show rw3 x 2 * (2 ^ n * 2 ^ (3 * 2)) = rw3 x 2 * 64 * 2 ^ n from by rw [Nat.mul_comm (2 ^ n), ← Nat.mul_assoc], show rw3 x 0 * (2 ^ n * 2 ^ (3 * 0)) = rw3 x 0 * 2 ^ n from by rw [Nat.mul_zero, Nat.pow_zero, Nat.mul_one]]
theorem q_plain {wh : Nat} (hw : wh < 3) {w0 w1 : Nat → Nat} (b0 : ∀ j, w0 j < 512) (b1 : ∀ j, w1 j < 512) {pu go cl : Nat → Int32} (A : MA w0 w1 pu go cl) {l : Nat} (hl : 2 ≤ l) (hl4 : l < 4) {K : Int32 → Prop} (h : K (nI (cm2 wh (w0 (3 * l + 1)) (w1 (3 * l + 1))))) : wX12_plain (nI wh) (nI l) go K := by
  obtain ⟨A1, A2, A3⟩ := A
  unfold wX12_plain wX12_plain_L5
  intro P hP
  have inner : ∀ (r x v : Nat) (E : Int32 → Int32 → Prop), r < 2 → x = sel r w0 w1 (3 * l + 1) → (∀ p, E (nI (v ||| (if hasR wh r then x * 2 ^ (9 * r) else 0))) p) → wX12_plain_L14 (nI wh) (nI l) go (nI r) E (nI v) (nI 0) := by
    intro r x v E hr hx hE
    have hx5 : x < 512 := by rw [hx]; unfold sel; split; exact b0 _; exact b1 _
    have hg : ∀ p, p < 3 → go ((2 * r + (l - 2)) * 3 + p) = nI (rw3 x p) := fun p hp => by
      rw [A2 r (l - 2) p hr (by omega) hp, hx, show 3 * (l - 2) + 7 = 3 * l + 1 from by omega]
    unfold wX12_plain_L14
    intro P hP
    cases hh : hasR wh r
    · rw [hh] at hE
      refine hP _ _ ?_
      simp (disch := omega) only [q_lit, nI_add, pk_mul, q_a1, q_a3, q_a7, q_a31, q_a63, q_a255, q_a511, q_or, q_shr, q_shl, q_le, q_lt, q_eq, q_in, q_cl, q_neg, q_neg', q_nlt0, q_nle, q_nlt, q_nle', q_nlt', forall_eq, true_implies, false_implies, not_true_eq_false, not_false_eq_true, and_true, true_and, Nat.reduceMod, Nat.reducePow, Nat.reduceAdd, Nat.reduceMul, Nat.reduceDiv, Nat.reduceSub, Nat.reduceEqDiff, Nat.reduceLeDiff, Nat.reduceLT]
      refine q_isOf hw hr ?_
      rw [hh]
      simp only [Bool.false_eq_true, if_false, q_lit, nI_add, pk_mul, q_a1, q_a3, q_a7, q_a31, q_a63, q_a255, q_a511, q_or, q_shr, q_shl, q_le, q_lt, q_eq, q_in, q_cl, q_neg, q_neg', q_nlt0, q_nle, q_nlt, q_nle', q_nlt', forall_eq, true_implies, false_implies, not_true_eq_false, not_false_eq_true, and_true, true_and, Nat.reduceMod, Nat.reducePow, Nat.reduceAdd, Nat.reduceMul, Nat.reduceDiv, Nat.reduceSub, Nat.reduceEqDiff, Nat.reduceLeDiff, Nat.reduceLT]
      have := hE (nI 0); simpa using this
    · rw [hh] at hE
      simp only [if_true] at hE
      have step : ∀ p v', p < 3 → P (nI (v' ||| rw3 x p * 2 ^ (9 * r + 3 * p))) (nI (p + 1)) → P (nI v') (nI p) := by
        intro p v' hp ih
        refine hP _ _ ?_
        simp (disch := omega) only [q_lit, nI_add, pk_mul, q_a1, q_a3, q_a7, q_a31, q_a63, q_a255, q_a511, q_or, q_shr, q_shl, q_le, q_lt, q_eq, q_in, q_cl, q_neg, q_neg', q_nlt0, q_nle, q_nlt, q_nle', q_nlt', forall_eq, true_implies, false_implies, not_true_eq_false, not_false_eq_true, and_true, true_and, Nat.reduceMod, Nat.reducePow, Nat.reduceAdd, Nat.reduceMul, Nat.reduceDiv, Nat.reduceSub, Nat.reduceEqDiff, Nat.reduceLeDiff, Nat.reduceLT]
        refine ⟨fun g => absurd g (by omega), fun _ => q_isOf hw hr ?_⟩
        rw [hh]
        simp (disch := omega) only [if_true, q_one2, q_lit, nI_add, pk_mul, q_a1, q_a3, q_a7, q_a31, q_a63, q_a255, q_a511, q_or, q_shr, q_shl, q_le, q_lt, q_eq, q_in, q_cl, q_neg, q_neg', q_nlt0, q_nle, q_nlt, q_nle', q_nlt', forall_eq, true_implies, false_implies, not_true_eq_false, not_false_eq_true, and_true, true_and, Nat.reduceMod, Nat.reducePow, Nat.reduceAdd, Nat.reduceMul, Nat.reduceDiv, Nat.reduceSub, Nat.reduceEqDiff, Nat.reduceLeDiff, Nat.reduceLT]
        refine q_goAt hl ?_
        simp (disch := omega) only [q_lit, nI_add, pk_mul, q_a1, q_a3, q_a7, q_a31, q_a63, q_a255, q_a511, q_or, q_shr, q_shl, q_le, q_lt, q_eq, q_in, q_cl, q_neg, q_neg', q_nlt0, q_nle, q_nlt, q_nle', q_nlt', forall_eq, true_implies, false_implies, not_true_eq_false, not_false_eq_true, and_true, true_and, Nat.reduceMod, Nat.reducePow, Nat.reduceAdd, Nat.reduceMul, Nat.reduceDiv, Nat.reduceSub, Nat.reduceEqDiff, Nat.reduceLeDiff, Nat.reduceLT]
        refine ⟨by omega, ?_⟩
        rw [hg p hp]
        simp (disch := omega) only [q_lit, nI_add, pk_mul, q_a1, q_a3, q_a7, q_a31, q_a63, q_a255, q_a511, q_or, q_shr, q_shl, q_le, q_lt, q_eq, q_in, q_cl, q_neg, q_neg', q_nlt0, q_nle, q_nlt, q_nle', q_nlt', forall_eq, true_implies, false_implies, not_true_eq_false, not_false_eq_true, and_true, true_and, Nat.reduceMod, Nat.reducePow, Nat.reduceAdd, Nat.reduceMul, Nat.reduceDiv, Nat.reduceSub, Nat.reduceEqDiff, Nat.reduceLeDiff, Nat.reduceLT]
        rw [show (9 * r + 3 * p) % 32 = 9 * r + 3 * p from by omega]
        exact ih
      refine step 0 v (by omega) (step 1 _ (by omega) (step 2 _ (by omega) ?_))
      refine hP _ _ ?_
      simp (disch := omega) only [q_lit, nI_add, pk_mul, q_a1, q_a3, q_a7, q_a31, q_a63, q_a255, q_a511, q_or, q_shr, q_shl, q_le, q_lt, q_eq, q_in, q_cl, q_neg, q_neg', q_nlt0, q_nle, q_nlt, q_nle', q_nlt', forall_eq, true_implies, false_implies, not_true_eq_false, not_false_eq_true, and_true, true_and, Nat.reduceMod, Nat.reducePow, Nat.reduceAdd, Nat.reduceMul, Nat.reduceDiv, Nat.reduceSub, Nat.reduceEqDiff, Nat.reduceLeDiff, Nat.reduceLT, Nat.le_refl]
      have e := dig_p hx5 (9 * r)
      have := hE (nI 3)
      rw [← e, ← Nat.or_assoc, ← Nat.or_assoc] at this
      exact this
  refine hP _ _ ?_
  simp (disch := omega) only [q_lit, nI_add, pk_mul, q_a1, q_a3, q_a7, q_a31, q_a63, q_a255, q_a511, q_or, q_shr, q_shl, q_le, q_lt, q_eq, q_in, q_cl, q_neg, q_neg', q_nlt0, q_nle, q_nlt, q_nle', q_nlt', forall_eq, true_implies, false_implies, not_true_eq_false, not_false_eq_true, and_true, true_and, Nat.reduceMod, Nat.reducePow, Nat.reduceAdd, Nat.reduceMul, Nat.reduceDiv, Nat.reduceSub, Nat.reduceEqDiff, Nat.reduceLeDiff, Nat.reduceLT]
  intro E hE
  refine inner 0 _ 0 E (by omega) rfl (fun p => hE _ _ ?_)
  simp (disch := omega) only [q_lit, nI_add, pk_mul, q_a1, q_a3, q_a7, q_a31, q_a63, q_a255, q_a511, q_or, q_shr, q_shl, q_le, q_lt, q_eq, q_in, q_cl, q_neg, q_neg', q_nlt0, q_nle, q_nlt, q_nle', q_nlt', forall_eq, true_implies, false_implies, not_true_eq_false, not_false_eq_true, and_true, true_and, Nat.reduceMod, Nat.reducePow, Nat.reduceAdd, Nat.reduceMul, Nat.reduceDiv, Nat.reduceSub, Nat.reduceEqDiff, Nat.reduceLeDiff, Nat.reduceLT]
  refine hP _ _ ?_
  simp (disch := omega) only [q_lit, nI_add, pk_mul, q_a1, q_a3, q_a7, q_a31, q_a63, q_a255, q_a511, q_or, q_shr, q_shl, q_le, q_lt, q_eq, q_in, q_cl, q_neg, q_neg', q_nlt0, q_nle, q_nlt, q_nle', q_nlt', forall_eq, true_implies, false_implies, not_true_eq_false, not_false_eq_true, and_true, true_and, Nat.reduceMod, Nat.reducePow, Nat.reduceAdd, Nat.reduceMul, Nat.reduceDiv, Nat.reduceSub, Nat.reduceEqDiff, Nat.reduceLeDiff, Nat.reduceLT]
  intro E hE
  refine inner 1 _ _ E (by omega) rfl (fun p => hE _ _ ?_)
  simp (disch := omega) only [q_lit, nI_add, pk_mul, q_a1, q_a3, q_a7, q_a31, q_a63, q_a255, q_a511, q_or, q_shr, q_shl, q_le, q_lt, q_eq, q_in, q_cl, q_neg, q_neg', q_nlt0, q_nle, q_nlt, q_nle', q_nlt', forall_eq, true_implies, false_implies, not_true_eq_false, not_false_eq_true, and_true, true_and, Nat.reduceMod, Nat.reducePow, Nat.reduceAdd, Nat.reduceMul, Nat.reduceDiv, Nat.reduceSub, Nat.reduceEqDiff, Nat.reduceLeDiff, Nat.reduceLT]
  refine hP _ _ ?_
  simp (disch := omega) only [q_lit, nI_add, pk_mul, q_a1, q_a3, q_a7, q_a31, q_a63, q_a255, q_a511, q_or, q_shr, q_shl, q_le, q_lt, q_eq, q_in, q_cl, q_neg, q_neg', q_nlt0, q_nle, q_nlt, q_nle', q_nlt', forall_eq, true_implies, false_implies, not_true_eq_false, not_false_eq_true, and_true, true_and, Nat.reduceMod, Nat.reducePow, Nat.reduceAdd, Nat.reduceMul, Nat.reduceDiv, Nat.reduceSub, Nat.reduceEqDiff, Nat.reduceLeDiff, Nat.reduceLT, Nat.le_refl]
  have e := cm2_or (wh := wh) (b := w1 (3 * l + 1)) (b0 (3 * l + 1))
  rw [← e] at h
  exact h
theorem rw3_wrp {w : Nat → Nat} {a e x p : Nat} (hp : p < 3) : rw3 (wrp w a e x) p = img (img (rw3 (w (3 * a + 1)) p) x) (w (3 * e + 1)) ||| img (img (rw3 (w (3 * a + 2)) p) x) (w (3 * e + 2)) := by
  unfold wrp
  rw [rw3_orr, rw3_thn3 hp, rw3_thn3 hp, rw3_thn3 hp, rw3_thn3 hp]
def xr (r x : Nat) : Nat := if r = 0 then x else x / 512
theorem xr_lt {r x : Nat} (h : x < 262144) : xr r x < 262144 := by unfold xr; split <;> omega
theorem imc_part {r d x : Nat} (hr : r < 2) (hd : d < 8) : imc (d * 2 ^ (3 * r)) x / 2 ^ (3 * r) % 8 = img d (xr r x) := by
  have h : r = 0 ∨ r = 1 := by omega
  have h1 := img_lt d x
  have h2 := img_lt d (x / 512)
  rcases h with rfl | rfl
  · unfold imc xr
    rw [show 3 * 0 = 0 from rfl, Nat.pow_zero, Nat.mul_one, Nat.div_one, show d / 8 = 0 from by omega, img_0]
    simp; omega
  · unfold imc xr
    rw [show 2 ^ (3 * 1) = 8 from rfl, ← img_mod (d * 8), show d * 8 % 8 = 0 from by omega, img_0, show d * 8 / 8 = d from by omega]
    simp; omega
theorem q_block {wh : Nat} (hw : wh < 3) {n0 m0 t0 n1 m1 t1 : Nat} {w0 w1 : Nat → Nat} (W0 : WfR n0 m0 t0 w0) (W1 : WfR n1 m1 t1 w1) {mk pu go cl : Nat → Int32} (A : MA w0 w1 pu go cl) (k0 : mk 0 = nI m0) (k1 : mk 1 = nI m1) {a e x : Nat} (ha : a < 2) (he : 4 ≤ e) (he6 : e < 6) (hx : x < 262144) {K : Int32 → Prop} (h : K (nI (cm2 wh (wrp w0 a e x) (wrp w1 a e (x / 512))))) : wX12_block (nI wh) (nI a) (nI x) (nI e) mk pu cl K := by
  obtain ⟨A1, A2, A3⟩ := A
  unfold wX12_block wX12_block_L6
  intro P hP
  have inner : ∀ (r n m t : Nat) (w : Nat → Nat) (v : Nat) (E : Int32 → Int32 → Prop), r < 2 → (∀ i, w i = sel r w0 w1 i) → WfR n m t w → mk r = nI m → (∀ p, E (nI (v ||| (if hasR wh r then wrp w a e (xr r x) * 2 ^ (9 * r) else 0))) p) → wX12_block_L15 (nI wh) (nI a) (nI x) (nI e) mk pu cl (nI r) E (nI v) (nI 0) := by
    intro r n m t w v E hr hsel W hm hE
    obtain ⟨_, _, m1', m2, _, hR, hz⟩ := W
    have hp : ∀ p i, p < 3 → i < 2 → pu (((2 * r + a) * 3 + p) * 2 + i) = nI (rw3 (w (3 * a + i + 1)) p) := fun p i hp hi => by
      rw [A1 r a p i hr ha hp hi, hsel]
    have hc : ∀ q i, q < 3 → i < 2 → cl (((2 * r + (e - 4)) * 3 + q) * 3 + (i + 1)) = nI (rw3 (w (3 * e + i + 1)) q) := fun q i hq hi => by
      rw [A3 r (e - 4) q (i + 1) hr (by omega) hq (by omega), hsel, show 3 * (e - 4) + 12 + (i + 1) = 3 * e + i + 1 from by omega]
    unfold wX12_block_L15
    intro P hP
    cases hh : hasR wh r
    · rw [hh] at hE
      refine hP _ _ ?_
      simp (disch := omega) only [q_lit, nI_add, pk_mul, q_a1, q_a3, q_a7, q_a31, q_a63, q_a255, q_a511, q_or, q_shr, q_shl, q_le, q_lt, q_eq, q_in, q_cl, q_neg, q_neg', q_nlt0, q_nle, q_nlt, q_nle', q_nlt', forall_eq, true_implies, false_implies, not_true_eq_false, not_false_eq_true, and_true, true_and, Nat.reduceMod, Nat.reducePow, Nat.reduceAdd, Nat.reduceMul, Nat.reduceDiv, Nat.reduceSub, Nat.reduceEqDiff, Nat.reduceLeDiff, Nat.reduceLT]
      refine q_isOf hw hr ?_
      rw [hh]
      simp only [Bool.false_eq_true, if_false, q_lit, nI_add, pk_mul, q_a1, q_a3, q_a7, q_a31, q_a63, q_a255, q_a511, q_or, q_shr, q_shl, q_le, q_lt, q_eq, q_in, q_cl, q_neg, q_neg', q_nlt0, q_nle, q_nlt, q_nle', q_nlt', forall_eq, true_implies, false_implies, not_true_eq_false, not_false_eq_true, and_true, true_and, Nat.reduceMod, Nat.reducePow, Nat.reduceAdd, Nat.reduceMul, Nat.reduceDiv, Nat.reduceSub, Nat.reduceEqDiff, Nat.reduceLeDiff, Nat.reduceLT]
      have := hE (nI 0); simpa using this
    · rw [hh] at hE
      simp only [if_true] at hE
      have L86 : ∀ (p i b v' : Nat) (E : Int32 → Int32 → Prop), p < 3 → i < 2 → b < 8 → (∀ u, E (nI (v' ||| img b (w (3 * e + i + 1)) * 2 ^ (9 * r + 3 * p))) u) → wX12_block_L86 (nI e) cl (nI r) (nI p) (nI i) (nI b) E (nI v') (nI 0) := by
        intro p i b v' E hp' hi hb hE'
        unfold wX12_block_L86
        intro P hP
        have step : ∀ q v'', q < 3 → P (nI (v'' ||| (if b.testBit q then rw3 (w (3 * e + i + 1)) q else 0) * 2 ^ (9 * r + 3 * p))) (nI (q + 1)) → P (nI v'') (nI q) := by
          intro q v'' hq ih
          refine hP _ _ ?_
          simp (disch := omega) only [q_lit, q_le, q_a31, nI_add, pk_mul]
          rw [show q % 32 = q from by omega, show (9 * r + 3 * p) % 32 = 9 * r + 3 * p from by omega]
          simp (disch := omega) only [q_bit, q_shl, q_or]
          refine ⟨fun g => absurd g (by omega), fun _ => ?_⟩
          cases hbb : b.testBit q
          · simp only [hbb, Bool.false_eq_true, if_false, Nat.zero_mul, q_one0, false_implies, not_false_eq_true, true_implies, true_and, forall_eq, nI_add] at ih ⊢
            exact ih
          · simp only [hbb, if_true, q_one1, true_implies, not_true_eq_false, false_implies, and_true] at ih ⊢
            refine q_closeAt (i := i + 1) (nI_1 i) he ?_
            rw [q_in (by omega), q_cl (by omega), hc q i hq hi]
            simp (disch := omega) only [q_lit, nI_add, pk_mul, q_a1, q_a3, q_a7, q_a31, q_a63, q_a255, q_a511, q_or, q_shr, q_shl, q_le, q_lt, q_eq, q_in, q_cl, q_neg, q_neg', q_nlt0, q_nle, q_nlt, q_nle', q_nlt', forall_eq, true_implies, false_implies, not_true_eq_false, not_false_eq_true, and_true, true_and, Nat.reduceMod, Nat.reducePow, Nat.reduceAdd, Nat.reduceMul, Nat.reduceDiv, Nat.reduceSub, Nat.reduceEqDiff, Nat.reduceLeDiff, Nat.reduceLT]
            exact ⟨by omega, ih⟩
        refine step 0 v' (by omega) (step 1 _ (by omega) (step 2 _ (by omega) ?_))
        refine hP _ _ ?_
        simp (disch := omega) only [q_lit, nI_add, pk_mul, q_a1, q_a3, q_a7, q_a31, q_a63, q_a255, q_a511, q_or, q_shr, q_shl, q_le, q_lt, q_eq, q_in, q_cl, q_neg, q_neg', q_nlt0, q_nle, q_nlt, q_nle', q_nlt', forall_eq, true_implies, false_implies, not_true_eq_false, not_false_eq_true, and_true, true_and, Nat.reduceMod, Nat.reducePow, Nat.reduceAdd, Nat.reduceMul, Nat.reduceDiv, Nat.reduceSub, Nat.reduceEqDiff, Nat.reduceLeDiff, Nat.reduceLT, Nat.le_refl]
        have := hE' (nI 3)
        rw [imgd, or_mulr, or_mulr, ← Nat.or_assoc, ← Nat.or_assoc] at this
        exact this
      have L33 : ∀ (p v' : Nat) (E : Int32 → Int32 → Prop), p < 3 → (∀ u, E (nI (v' ||| rw3 (wrp w a e (xr r x)) p * 2 ^ (9 * r + 3 * p))) u) → wX12_block_L33 (nI a) (nI x) (nI e) mk pu cl (nI r) (nI p) E (nI v') (nI 0) := by
        intro p v' E hp' hE'
        unfold wX12_block_L33
        intro P hP
        have step : ∀ i v'', i < m → P (nI (v'' ||| img (img (rw3 (w (3 * a + i + 1)) p) (xr r x)) (w (3 * e + i + 1)) * 2 ^ (9 * r + 3 * p))) (nI (i + 1)) → P (nI v'') (nI i) := by
          intro i v'' hi ih
          refine hP _ _ ?_
          rw [q_cl (by omega), hm]
          simp (disch := omega) only [q_lit, nI_add, pk_mul, q_a1, q_a3, q_a7, q_a31, q_a63, q_a255, q_a511, q_or, q_shr, q_shl, q_le, q_lt, q_eq, q_in, q_cl, q_neg, q_neg', q_nlt0, q_nle, q_nlt, q_nle', q_nlt', forall_eq, true_implies, false_implies, not_true_eq_false, not_false_eq_true, and_true, true_and, Nat.reduceMod, Nat.reducePow, Nat.reduceAdd, Nat.reduceMul, Nat.reduceDiv, Nat.reduceSub, Nat.reduceEqDiff, Nat.reduceLeDiff, Nat.reduceLT]
          refine ⟨hr, fun g => absurd g (by omega), fun _ => q_putAt (i := i + 1) (nI_1 i) (by omega) ?_⟩
          rw [Nat.add_sub_cancel, q_in (by omega), q_cl (by omega), hp p i hp' (by omega)]
          refine ⟨by omega, ?_⟩
          have hd := rw3_lt (w (3 * a + i + 1)) p
          simp (disch := omega) only [q_lit, nI_add, pk_mul, q_a1, q_a3, q_a7, q_a31, q_a63, q_a255, q_a511, q_or, q_shr, q_shl, q_le, q_lt, q_eq, q_in, q_cl, q_neg, q_neg', q_nlt0, q_nle, q_nlt, q_nle', q_nlt', forall_eq, true_implies, false_implies, not_true_eq_false, not_false_eq_true, and_true, true_and, Nat.reduceMod, Nat.reducePow, Nat.reduceAdd, Nat.reduceMul, Nat.reduceDiv, Nat.reduceSub, Nat.reduceEqDiff, Nat.reduceLeDiff, Nat.reduceLT]
          rw [show 3 * r % 32 = 3 * r from by omega]
          have hb6 : rw3 (w (3 * a + i + 1)) p * 2 ^ (3 * r) < 64 := by
            have : r = 0 ∨ r = 1 := by omega
            rcases this with rfl | rfl
            · simp; omega
            · rw [show 2 ^ (3 * 1) = 8 from rfl]; omega
          refine q_imageM hb6 hx ?_
          have hlt := imc_lt (rw3 (w (3 * a + i + 1)) p * 2 ^ (3 * r)) x
          simp (disch := omega) only [q_lit, nI_add, pk_mul, q_a1, q_a3, q_a7, q_a31, q_a63, q_a255, q_a511, q_or, q_shr, q_shl, q_le, q_lt, q_eq, q_in, q_cl, q_neg, q_neg', q_nlt0, q_nle, q_nlt, q_nle', q_nlt', forall_eq, true_implies, false_implies, not_true_eq_false, not_false_eq_true, and_true, true_and, Nat.reduceMod, Nat.reducePow, Nat.reduceAdd, Nat.reduceMul, Nat.reduceDiv, Nat.reduceSub, Nat.reduceEqDiff, Nat.reduceLeDiff, Nat.reduceLT]
          rw [imc_part hr hd]
          refine L86 p i _ _ _ hp' (by omega) (img_lt _ _) (fun u => ?_)
          exact ih
        have hmm : m = 1 ∨ m = 2 := by omega
        have fin : ∀ v'', E (nI v'') (nI m) → P (nI v'') (nI m) := fun v'' hv => by
          refine hP _ _ ?_
          rw [q_cl (by omega), hm]
          simp (disch := omega) only [q_lit, nI_add, pk_mul, q_a1, q_a3, q_a7, q_a31, q_a63, q_a255, q_a511, q_or, q_shr, q_shl, q_le, q_lt, q_eq, q_in, q_cl, q_neg, q_neg', q_nlt0, q_nle, q_nlt, q_nle', q_nlt', forall_eq, true_implies, false_implies, not_true_eq_false, not_false_eq_true, and_true, true_and, Nat.reduceMod, Nat.reducePow, Nat.reduceAdd, Nat.reduceMul, Nat.reduceDiv, Nat.reduceSub, Nat.reduceEqDiff, Nat.reduceLeDiff, Nat.reduceLT, Nat.le_refl]
          exact ⟨hr, hv⟩
        have hE2 := hE' (nI m)
        rw [rw3_wrp hp'] at hE2
        rcases hmm with rfl | rfl
        · refine step 0 v' (by omega) (fin _ ?_)
          have e1 : w (3 * a + 2) = 0 := hz _ (by have : a = 0 ∨ a = 1 := by omega
                                                  rcases this with rfl | rfl <;> rfl)
          rw [e1, show rw3 0 p = 0 from by unfold rw3; simp, img_0, img_0, Nat.or_zero] at hE2
          exact hE2
        · refine step 0 v' (by omega) (step 1 _ (by omega) (fin _ ?_))
          rw [or_mulr, ← Nat.or_assoc] at hE2
          exact hE2
      have step : ∀ p v', p < 3 → P (nI (v' ||| rw3 (wrp w a e (xr r x)) p * 2 ^ (9 * r + 3 * p))) (nI (p + 1)) → P (nI v') (nI p) := by
        intro p v' hp' ih
        refine hP _ _ ?_
        simp (disch := omega) only [q_lit, nI_add, pk_mul, q_a1, q_a3, q_a7, q_a31, q_a63, q_a255, q_a511, q_or, q_shr, q_shl, q_le, q_lt, q_eq, q_in, q_cl, q_neg, q_neg', q_nlt0, q_nle, q_nlt, q_nle', q_nlt', forall_eq, true_implies, false_implies, not_true_eq_false, not_false_eq_true, and_true, true_and, Nat.reduceMod, Nat.reducePow, Nat.reduceAdd, Nat.reduceMul, Nat.reduceDiv, Nat.reduceSub, Nat.reduceEqDiff, Nat.reduceLeDiff, Nat.reduceLT]
        refine ⟨fun g => absurd g (by omega), fun _ => q_isOf hw hr ?_⟩
        rw [hh]
        simp (disch := omega) only [if_true, q_one2, q_lit, nI_add, pk_mul, q_a1, q_a3, q_a7, q_a31, q_a63, q_a255, q_a511, q_or, q_shr, q_shl, q_le, q_lt, q_eq, q_in, q_cl, q_neg, q_neg', q_nlt0, q_nle, q_nlt, q_nle', q_nlt', forall_eq, true_implies, false_implies, not_true_eq_false, not_false_eq_true, and_true, true_and, Nat.reduceMod, Nat.reducePow, Nat.reduceAdd, Nat.reduceMul, Nat.reduceDiv, Nat.reduceSub, Nat.reduceEqDiff, Nat.reduceLeDiff, Nat.reduceLT]
        refine L33 p v' _ hp' (fun u => ?_)
        exact ih
      refine step 0 v (by omega) (step 1 _ (by omega) (step 2 _ (by omega) ?_))
      refine hP _ _ ?_
      simp (disch := omega) only [q_lit, nI_add, pk_mul, q_a1, q_a3, q_a7, q_a31, q_a63, q_a255, q_a511, q_or, q_shr, q_shl, q_le, q_lt, q_eq, q_in, q_cl, q_neg, q_neg', q_nlt0, q_nle, q_nlt, q_nle', q_nlt', forall_eq, true_implies, false_implies, not_true_eq_false, not_false_eq_true, and_true, true_and, Nat.reduceMod, Nat.reducePow, Nat.reduceAdd, Nat.reduceMul, Nat.reduceDiv, Nat.reduceSub, Nat.reduceEqDiff, Nat.reduceLeDiff, Nat.reduceLT, Nat.le_refl]
      have e := dig_p (wrp_lt w a e (xr r x)) (9 * r)
      have := hE (nI 3)
      rw [← e, ← Nat.or_assoc, ← Nat.or_assoc] at this
      exact this
  refine hP _ _ ?_
  simp (disch := omega) only [q_lit, nI_add, pk_mul, q_a1, q_a3, q_a7, q_a31, q_a63, q_a255, q_a511, q_or, q_shr, q_shl, q_le, q_lt, q_eq, q_in, q_cl, q_neg, q_neg', q_nlt0, q_nle, q_nlt, q_nle', q_nlt', forall_eq, true_implies, false_implies, not_true_eq_false, not_false_eq_true, and_true, true_and, Nat.reduceMod, Nat.reducePow, Nat.reduceAdd, Nat.reduceMul, Nat.reduceDiv, Nat.reduceSub, Nat.reduceEqDiff, Nat.reduceLeDiff, Nat.reduceLT]
  intro E hE
  refine inner 0 _ _ _ w0 0 E (by omega) (fun _ => rfl) W0 k0 (fun p => hE _ _ ?_)
  simp (disch := omega) only [q_lit, nI_add, pk_mul, q_a1, q_a3, q_a7, q_a31, q_a63, q_a255, q_a511, q_or, q_shr, q_shl, q_le, q_lt, q_eq, q_in, q_cl, q_neg, q_neg', q_nlt0, q_nle, q_nlt, q_nle', q_nlt', forall_eq, true_implies, false_implies, not_true_eq_false, not_false_eq_true, and_true, true_and, Nat.reduceMod, Nat.reducePow, Nat.reduceAdd, Nat.reduceMul, Nat.reduceDiv, Nat.reduceSub, Nat.reduceEqDiff, Nat.reduceLeDiff, Nat.reduceLT]
  refine hP _ _ ?_
  simp (disch := omega) only [q_lit, nI_add, pk_mul, q_a1, q_a3, q_a7, q_a31, q_a63, q_a255, q_a511, q_or, q_shr, q_shl, q_le, q_lt, q_eq, q_in, q_cl, q_neg, q_neg', q_nlt0, q_nle, q_nlt, q_nle', q_nlt', forall_eq, true_implies, false_implies, not_true_eq_false, not_false_eq_true, and_true, true_and, Nat.reduceMod, Nat.reducePow, Nat.reduceAdd, Nat.reduceMul, Nat.reduceDiv, Nat.reduceSub, Nat.reduceEqDiff, Nat.reduceLeDiff, Nat.reduceLT]
  intro E hE
  refine inner 1 _ _ _ w1 _ E (by omega) (fun _ => rfl) W1 k1 (fun p => hE _ _ ?_)
  simp (disch := omega) only [q_lit, nI_add, pk_mul, q_a1, q_a3, q_a7, q_a31, q_a63, q_a255, q_a511, q_or, q_shr, q_shl, q_le, q_lt, q_eq, q_in, q_cl, q_neg, q_neg', q_nlt0, q_nle, q_nlt, q_nle', q_nlt', forall_eq, true_implies, false_implies, not_true_eq_false, not_false_eq_true, and_true, true_and, Nat.reduceMod, Nat.reducePow, Nat.reduceAdd, Nat.reduceMul, Nat.reduceDiv, Nat.reduceSub, Nat.reduceEqDiff, Nat.reduceLeDiff, Nat.reduceLT]
  refine hP _ _ ?_
  simp (disch := omega) only [q_lit, nI_add, pk_mul, q_a1, q_a3, q_a7, q_a31, q_a63, q_a255, q_a511, q_or, q_shr, q_shl, q_le, q_lt, q_eq, q_in, q_cl, q_neg, q_neg', q_nlt0, q_nle, q_nlt, q_nle', q_nlt', forall_eq, true_implies, false_implies, not_true_eq_false, not_false_eq_true, and_true, true_and, Nat.reduceMod, Nat.reducePow, Nat.reduceAdd, Nat.reduceMul, Nat.reduceDiv, Nat.reduceSub, Nat.reduceEqDiff, Nat.reduceLeDiff, Nat.reduceLT, Nat.le_refl]
  have e := cm2_or (wh := wh) (b := wrp w1 a e (x / 512)) (wrp_lt w0 a e x)
  rw [← e] at h
  exact h
theorem tb_r {c r p : Nat} : (c / 8 ^ r).testBit p = c.testBit (3 * r + p) := by
  rw [show 8 ^ r = 2 ^ (3 * r) from by rw [Nat.pow_mul], Nat.testBit_div_two_pow]; congr 1; omega
theorem q_openedM {wh : Nat} (hw : wh < 3) {w0 w1 : Nat → Nat} {pu go cl : Nat → Int32} (A : MA w0 w1 pu go cl) {a c : Nat} (ha : a < 2) (hc : c < 64) {K : Int32 → Prop} (h : K (nI (cs2 wh (img c (aln w0 a)) (img (c / 8) (aln w1 a))))) : wX12_opened (nI wh) (nI a) (nI c) pu K := by
  obtain ⟨A1, A2, A3⟩ := A
  unfold wX12_opened wX12_opened_L6
  intro P hP
  have inner : ∀ (r : Nat) (w : Nat → Nat) (v : Nat) (E : Int32 → Int32 → Prop), r < 2 → (∀ i, w i = sel r w0 w1 i) → (∀ p, E (nI (v ||| (if hasR wh r then img (c / 8 ^ r) (aln w a) * 2 ^ (3 * r) else 0))) p) → wX12_opened_L15 (nI wh) (nI a) (nI c) pu (nI r) E (nI v) (nI 0) := by
    intro r w v E hr hsel hE
    have hp : ∀ p i, p < 3 → i < 2 → pu (((2 * r + a) * 3 + p) * 2 + i) = nI (rw3 (w (3 * a + i + 1)) p) := fun p i hp hi => by
      rw [A1 r a p i hr ha hp hi, hsel]
    have hal : ∀ p, rw3 (w (3 * a + 0 + 1)) p ||| rw3 (w (3 * a + 1 + 1)) p = rw3 (aln w a) p := fun p => by
      unfold aln; rw [if_pos (by omega), rw3_orr]
    unfold wX12_opened_L15
    intro P hP
    cases hh : hasR wh r
    · rw [hh] at hE
      refine hP _ _ ?_
      simp (disch := omega) only [q_lit, nI_add, pk_mul, q_a1, q_a3, q_a7, q_a31, q_a63, q_a255, q_a511, q_or, q_shr, q_shl, q_le, q_lt, q_eq, q_in, q_cl, q_neg, q_neg', q_nlt0, q_nle, q_nlt, q_nle', q_nlt', forall_eq, true_implies, false_implies, not_true_eq_false, not_false_eq_true, and_true, true_and, Nat.reduceMod, Nat.reducePow, Nat.reduceAdd, Nat.reduceMul, Nat.reduceDiv, Nat.reduceSub, Nat.reduceEqDiff, Nat.reduceLeDiff, Nat.reduceLT]
      refine q_isOf hw hr ?_
      rw [hh]
      simp only [Bool.false_eq_true, if_false, q_lit, nI_add, pk_mul, q_a1, q_a3, q_a7, q_a31, q_a63, q_a255, q_a511, q_or, q_shr, q_shl, q_le, q_lt, q_eq, q_in, q_cl, q_neg, q_neg', q_nlt0, q_nle, q_nlt, q_nle', q_nlt', forall_eq, true_implies, false_implies, not_true_eq_false, not_false_eq_true, and_true, true_and, Nat.reduceMod, Nat.reducePow, Nat.reduceAdd, Nat.reduceMul, Nat.reduceDiv, Nat.reduceSub, Nat.reduceEqDiff, Nat.reduceLeDiff, Nat.reduceLT]
      have := hE (nI 0); simpa using this
    · rw [hh] at hE
      simp only [if_true] at hE
      have step : ∀ p v', p < 3 → P (nI (v' ||| (if (c / 8 ^ r).testBit p then rw3 (aln w a) p else 0) * 2 ^ (3 * r))) (nI (p + 1)) → P (nI v') (nI p) := by
        intro p v' hp' ih
        refine hP _ _ ?_
        simp (disch := omega) only [q_lit, nI_add, pk_mul, q_a1, q_a3, q_a7, q_a31, q_a63, q_a255, q_a511, q_or, q_shr, q_shl, q_le, q_lt, q_eq, q_in, q_cl, q_neg, q_neg', q_nlt0, q_nle, q_nlt, q_nle', q_nlt', forall_eq, true_implies, false_implies, not_true_eq_false, not_false_eq_true, and_true, true_and, Nat.reduceMod, Nat.reducePow, Nat.reduceAdd, Nat.reduceMul, Nat.reduceDiv, Nat.reduceSub, Nat.reduceEqDiff, Nat.reduceLeDiff, Nat.reduceLT]
        refine ⟨fun g => absurd g (by omega), fun _ => q_isOf hw hr ?_⟩
        rw [hh]
        simp (disch := omega) only [if_true, q_one2, not_false_eq_true, true_implies, false_implies, true_and]
        refine q_putAt (i := 1) rfl (by omega) ?_
        rw [q_in (by omega)]
        refine ⟨by omega, q_putAt (i := 2) rfl (by omega) ?_⟩
        rw [q_in (by omega)]
        refine ⟨by omega, ?_⟩
        rw [q_cl (by omega), q_cl (by omega), show 1 - 1 = 0 from rfl, show 2 - 1 = 1 from rfl, hp p 0 hp' (by omega), hp p 1 hp' (by omega), q_or, hal]
        rw [show 3 * r % 32 = 3 * r from by omega, show (3 * r + p) % 32 = 3 * r + p from by omega, show (c / 2 ^ (3 * r + p)) % 2 = (if c.testBit (3 * r + p) then 1 else 0) from by rw [Nat.testBit_eq_decide_div_mod_eq]; rcases Nat.mod_two_eq_zero_or_one (c / 2 ^ (3 * r + p)) with g | g <;> simp [g]]
        rw [tb_r] at ih
        cases hb : c.testBit (3 * r + p)
        · simp only [hb, Bool.false_eq_true, if_false, Nat.zero_mul, q_one0, false_implies, not_false_eq_true, true_implies, true_and, q_lit, q_or, nI_add] at ih ⊢
          exact ⟨fun g => absurd g (by decide), fun _ => ih⟩
        · simp (disch := omega) only [hb, if_true, q_one1, true_implies, not_true_eq_false, false_implies, and_true, q_lit, q_or, nI_add, q_shl] at ih ⊢
          exact ih
      refine step 0 v (by omega) (step 1 _ (by omega) (step 2 _ (by omega) ?_))
      refine hP _ _ ?_
      simp (disch := omega) only [q_lit, nI_add, pk_mul, q_a1, q_a3, q_a7, q_a31, q_a63, q_a255, q_a511, q_or, q_shr, q_shl, q_le, q_lt, q_eq, q_in, q_cl, q_neg, q_neg', q_nlt0, q_nle, q_nlt, q_nle', q_nlt', forall_eq, true_implies, false_implies, not_true_eq_false, not_false_eq_true, and_true, true_and, Nat.reduceMod, Nat.reducePow, Nat.reduceAdd, Nat.reduceMul, Nat.reduceDiv, Nat.reduceSub, Nat.reduceEqDiff, Nat.reduceLeDiff, Nat.reduceLT, Nat.le_refl]
      have := hE (nI 3)
      rw [imgd, or_mulr, or_mulr, ← Nat.or_assoc, ← Nat.or_assoc] at this
      exact this
  refine hP _ _ ?_
  simp (disch := omega) only [q_lit, nI_add, pk_mul, q_a1, q_a3, q_a7, q_a31, q_a63, q_a255, q_a511, q_or, q_shr, q_shl, q_le, q_lt, q_eq, q_in, q_cl, q_neg, q_neg', q_nlt0, q_nle, q_nlt, q_nle', q_nlt', forall_eq, true_implies, false_implies, not_true_eq_false, not_false_eq_true, and_true, true_and, Nat.reduceMod, Nat.reducePow, Nat.reduceAdd, Nat.reduceMul, Nat.reduceDiv, Nat.reduceSub, Nat.reduceEqDiff, Nat.reduceLeDiff, Nat.reduceLT]
  intro E hE
  refine inner 0 w0 0 E (by omega) (fun _ => rfl) (fun p => hE _ _ ?_)
  simp (disch := omega) only [q_lit, nI_add, pk_mul, q_a1, q_a3, q_a7, q_a31, q_a63, q_a255, q_a511, q_or, q_shr, q_shl, q_le, q_lt, q_eq, q_in, q_cl, q_neg, q_neg', q_nlt0, q_nle, q_nlt, q_nle', q_nlt', forall_eq, true_implies, false_implies, not_true_eq_false, not_false_eq_true, and_true, true_and, Nat.reduceMod, Nat.reducePow, Nat.reduceAdd, Nat.reduceMul, Nat.reduceDiv, Nat.reduceSub, Nat.reduceEqDiff, Nat.reduceLeDiff, Nat.reduceLT]
  refine hP _ _ ?_
  simp (disch := omega) only [q_lit, nI_add, pk_mul, q_a1, q_a3, q_a7, q_a31, q_a63, q_a255, q_a511, q_or, q_shr, q_shl, q_le, q_lt, q_eq, q_in, q_cl, q_neg, q_neg', q_nlt0, q_nle, q_nlt, q_nle', q_nlt', forall_eq, true_implies, false_implies, not_true_eq_false, not_false_eq_true, and_true, true_and, Nat.reduceMod, Nat.reducePow, Nat.reduceAdd, Nat.reduceMul, Nat.reduceDiv, Nat.reduceSub, Nat.reduceEqDiff, Nat.reduceLeDiff, Nat.reduceLT]
  intro E hE
  refine inner 1 w1 _ E (by omega) (fun _ => rfl) (fun p => hE _ _ ?_)
  simp (disch := omega) only [q_lit, nI_add, pk_mul, q_a1, q_a3, q_a7, q_a31, q_a63, q_a255, q_a511, q_or, q_shr, q_shl, q_le, q_lt, q_eq, q_in, q_cl, q_neg, q_neg', q_nlt0, q_nle, q_nlt, q_nle', q_nlt', forall_eq, true_implies, false_implies, not_true_eq_false, not_false_eq_true, and_true, true_and, Nat.reduceMod, Nat.reducePow, Nat.reduceAdd, Nat.reduceMul, Nat.reduceDiv, Nat.reduceSub, Nat.reduceEqDiff, Nat.reduceLeDiff, Nat.reduceLT]
  refine hP _ _ ?_
  simp (disch := omega) only [q_lit, nI_add, pk_mul, q_a1, q_a3, q_a7, q_a31, q_a63, q_a255, q_a511, q_or, q_shr, q_shl, q_le, q_lt, q_eq, q_in, q_cl, q_neg, q_neg', q_nlt0, q_nle, q_nlt, q_nle', q_nlt', forall_eq, true_implies, false_implies, not_true_eq_false, not_false_eq_true, and_true, true_and, Nat.reduceMod, Nat.reducePow, Nat.reduceAdd, Nat.reduceMul, Nat.reduceDiv, Nat.reduceSub, Nat.reduceEqDiff, Nat.reduceLeDiff, Nat.reduceLT, Nat.le_refl]
  have e := cs2_or (wh := wh) (b := img (c / 8) (aln w1 a)) (img_lt c (aln w0 a))
  rw [← e] at h
  rw [Nat.div_one]
  exact h
theorem q_closedOffM {wh : Nat} (hw : wh < 3) {w0 w1 : Nat → Nat} {pu go cl : Nat → Int32} (A : MA w0 w1 pu go cl) {e c : Nat} (he : 4 ≤ e) (he6 : e < 6) (hc : c < 64) {K : Int32 → Prop} (h : K (nI (cs2 wh (img c (aln w0 e)) (img (c / 8) (aln w1 e))))) : wX12_closedOff (nI wh) (nI e) (nI c) cl K := by
  obtain ⟨A1, A2, A3⟩ := A
  unfold wX12_closedOff wX12_closedOff_L6
  intro P hP
  have inner : ∀ (r : Nat) (w : Nat → Nat) (v : Nat) (E : Int32 → Int32 → Prop), r < 2 → (∀ i, w i = sel r w0 w1 i) → (∀ p, E (nI (v ||| (if hasR wh r then img (c / 8 ^ r) (aln w e) * 2 ^ (3 * r) else 0))) p) → wX12_closedOff_L15 (nI wh) (nI e) (nI c) cl (nI r) E (nI v) (nI 0) := by
    intro r w v E hr hsel hE
    have hp : ∀ p, p < 3 → cl (((2 * r + (e - 4)) * 3 + p) * 3 + 0) = nI (rw3 (aln w e) p) := fun p hp => by
      rw [A3 r (e - 4) p 0 hr (by omega) hp (by omega), show 3 * (e - 4) + 12 + 0 = 3 * e from by omega, ← hsel]
      unfold aln; rw [if_neg (by omega)]
    unfold wX12_closedOff_L15
    intro P hP
    cases hh : hasR wh r
    · rw [hh] at hE
      refine hP _ _ ?_
      simp (disch := omega) only [q_lit, nI_add, pk_mul, q_a1, q_a3, q_a7, q_a31, q_a63, q_a255, q_a511, q_or, q_shr, q_shl, q_le, q_lt, q_eq, q_in, q_cl, q_neg, q_neg', q_nlt0, q_nle, q_nlt, q_nle', q_nlt', forall_eq, true_implies, false_implies, not_true_eq_false, not_false_eq_true, and_true, true_and, Nat.reduceMod, Nat.reducePow, Nat.reduceAdd, Nat.reduceMul, Nat.reduceDiv, Nat.reduceSub, Nat.reduceEqDiff, Nat.reduceLeDiff, Nat.reduceLT]
      refine q_isOf hw hr ?_
      rw [hh]
      simp only [Bool.false_eq_true, if_false, q_lit, nI_add, pk_mul, q_a1, q_a3, q_a7, q_a31, q_a63, q_a255, q_a511, q_or, q_shr, q_shl, q_le, q_lt, q_eq, q_in, q_cl, q_neg, q_neg', q_nlt0, q_nle, q_nlt, q_nle', q_nlt', forall_eq, true_implies, false_implies, not_true_eq_false, not_false_eq_true, and_true, true_and, Nat.reduceMod, Nat.reducePow, Nat.reduceAdd, Nat.reduceMul, Nat.reduceDiv, Nat.reduceSub, Nat.reduceEqDiff, Nat.reduceLeDiff, Nat.reduceLT]
      have := hE (nI 0); simpa using this
    · rw [hh] at hE
      simp only [if_true] at hE
      have step : ∀ p v', p < 3 → P (nI (v' ||| (if (c / 8 ^ r).testBit p then rw3 (aln w e) p else 0) * 2 ^ (3 * r))) (nI (p + 1)) → P (nI v') (nI p) := by
        intro p v' hp' ih
        refine hP _ _ ?_
        simp (disch := omega) only [q_lit, nI_add, pk_mul, q_a1, q_a3, q_a7, q_a31, q_a63, q_a255, q_a511, q_or, q_shr, q_shl, q_le, q_lt, q_eq, q_in, q_cl, q_neg, q_neg', q_nlt0, q_nle, q_nlt, q_nle', q_nlt', forall_eq, true_implies, false_implies, not_true_eq_false, not_false_eq_true, and_true, true_and, Nat.reduceMod, Nat.reducePow, Nat.reduceAdd, Nat.reduceMul, Nat.reduceDiv, Nat.reduceSub, Nat.reduceEqDiff, Nat.reduceLeDiff, Nat.reduceLT]
        refine ⟨fun g => absurd g (by omega), fun _ => q_isOf hw hr ?_⟩
        rw [hh]
        simp (disch := omega) only [if_true, q_one2, not_false_eq_true, true_implies, false_implies, true_and]
        rw [show 3 * r % 32 = 3 * r from by omega, show (3 * r + p) % 32 = 3 * r + p from by omega, show (c / 2 ^ (3 * r + p)) % 2 = (if c.testBit (3 * r + p) then 1 else 0) from by rw [Nat.testBit_eq_decide_div_mod_eq]; rcases Nat.mod_two_eq_zero_or_one (c / 2 ^ (3 * r + p)) with g | g <;> simp [g]]
        rw [tb_r] at ih
        cases hb : c.testBit (3 * r + p)
        · simp only [hb, Bool.false_eq_true, if_false, Nat.zero_mul, q_one0, false_implies, not_false_eq_true, true_implies, true_and, q_lit, q_or, nI_add, forall_eq] at ih ⊢
          exact ⟨fun g => absurd g (by decide), fun _ => ih⟩
        · simp (disch := omega) only [hb, if_true, q_one1, true_implies, not_true_eq_false, false_implies, and_true] at ih ⊢
          refine q_closeAt (i := 0) (by decide) he ?_
          rw [q_in (by omega), q_cl (by omega), hp p hp']
          simp (disch := omega) only [q_lit, nI_add, pk_mul, q_a1, q_a3, q_a7, q_a31, q_a63, q_a255, q_a511, q_or, q_shr, q_shl, q_le, q_lt, q_eq, q_in, q_cl, q_neg, q_neg', q_nlt0, q_nle, q_nlt, q_nle', q_nlt', forall_eq, true_implies, false_implies, not_true_eq_false, not_false_eq_true, and_true, true_and, Nat.reduceMod, Nat.reducePow, Nat.reduceAdd, Nat.reduceMul, Nat.reduceDiv, Nat.reduceSub, Nat.reduceEqDiff, Nat.reduceLeDiff, Nat.reduceLT]
          exact ⟨by omega, ih⟩
      refine step 0 v (by omega) (step 1 _ (by omega) (step 2 _ (by omega) ?_))
      refine hP _ _ ?_
      simp (disch := omega) only [q_lit, nI_add, pk_mul, q_a1, q_a3, q_a7, q_a31, q_a63, q_a255, q_a511, q_or, q_shr, q_shl, q_le, q_lt, q_eq, q_in, q_cl, q_neg, q_neg', q_nlt0, q_nle, q_nlt, q_nle', q_nlt', forall_eq, true_implies, false_implies, not_true_eq_false, not_false_eq_true, and_true, true_and, Nat.reduceMod, Nat.reducePow, Nat.reduceAdd, Nat.reduceMul, Nat.reduceDiv, Nat.reduceSub, Nat.reduceEqDiff, Nat.reduceLeDiff, Nat.reduceLT, Nat.le_refl]
      have := hE (nI 3)
      rw [imgd, or_mulr, or_mulr, ← Nat.or_assoc, ← Nat.or_assoc] at this
      exact this
  refine hP _ _ ?_
  simp (disch := omega) only [q_lit, nI_add, pk_mul, q_a1, q_a3, q_a7, q_a31, q_a63, q_a255, q_a511, q_or, q_shr, q_shl, q_le, q_lt, q_eq, q_in, q_cl, q_neg, q_neg', q_nlt0, q_nle, q_nlt, q_nle', q_nlt', forall_eq, true_implies, false_implies, not_true_eq_false, not_false_eq_true, and_true, true_and, Nat.reduceMod, Nat.reducePow, Nat.reduceAdd, Nat.reduceMul, Nat.reduceDiv, Nat.reduceSub, Nat.reduceEqDiff, Nat.reduceLeDiff, Nat.reduceLT]
  intro E hE
  refine inner 0 w0 0 E (by omega) (fun _ => rfl) (fun p => hE _ _ ?_)
  simp (disch := omega) only [q_lit, nI_add, pk_mul, q_a1, q_a3, q_a7, q_a31, q_a63, q_a255, q_a511, q_or, q_shr, q_shl, q_le, q_lt, q_eq, q_in, q_cl, q_neg, q_neg', q_nlt0, q_nle, q_nlt, q_nle', q_nlt', forall_eq, true_implies, false_implies, not_true_eq_false, not_false_eq_true, and_true, true_and, Nat.reduceMod, Nat.reducePow, Nat.reduceAdd, Nat.reduceMul, Nat.reduceDiv, Nat.reduceSub, Nat.reduceEqDiff, Nat.reduceLeDiff, Nat.reduceLT]
  refine hP _ _ ?_
  simp (disch := omega) only [q_lit, nI_add, pk_mul, q_a1, q_a3, q_a7, q_a31, q_a63, q_a255, q_a511, q_or, q_shr, q_shl, q_le, q_lt, q_eq, q_in, q_cl, q_neg, q_neg', q_nlt0, q_nle, q_nlt, q_nle', q_nlt', forall_eq, true_implies, false_implies, not_true_eq_false, not_false_eq_true, and_true, true_and, Nat.reduceMod, Nat.reducePow, Nat.reduceAdd, Nat.reduceMul, Nat.reduceDiv, Nat.reduceSub, Nat.reduceEqDiff, Nat.reduceLeDiff, Nat.reduceLT]
  intro E hE
  refine inner 1 w1 _ E (by omega) (fun _ => rfl) (fun p => hE _ _ ?_)
  simp (disch := omega) only [q_lit, nI_add, pk_mul, q_a1, q_a3, q_a7, q_a31, q_a63, q_a255, q_a511, q_or, q_shr, q_shl, q_le, q_lt, q_eq, q_in, q_cl, q_neg, q_neg', q_nlt0, q_nle, q_nlt, q_nle', q_nlt', forall_eq, true_implies, false_implies, not_true_eq_false, not_false_eq_true, and_true, true_and, Nat.reduceMod, Nat.reducePow, Nat.reduceAdd, Nat.reduceMul, Nat.reduceDiv, Nat.reduceSub, Nat.reduceEqDiff, Nat.reduceLeDiff, Nat.reduceLT]
  refine hP _ _ ?_
  simp (disch := omega) only [q_lit, nI_add, pk_mul, q_a1, q_a3, q_a7, q_a31, q_a63, q_a255, q_a511, q_or, q_shr, q_shl, q_le, q_lt, q_eq, q_in, q_cl, q_neg, q_neg', q_nlt0, q_nle, q_nlt, q_nle', q_nlt', forall_eq, true_implies, false_implies, not_true_eq_false, not_false_eq_true, and_true, true_and, Nat.reduceMod, Nat.reducePow, Nat.reduceAdd, Nat.reduceMul, Nat.reduceDiv, Nat.reduceSub, Nat.reduceEqDiff, Nat.reduceLeDiff, Nat.reduceLT, Nat.le_refl]
  have e := cs2_or (wh := wh) (b := img (c / 8) (aln w1 e)) (img_lt c (aln w0 e))
  rw [← e] at h
  rw [Nat.div_one]
  exact h
theorem q_begun {wh : Nat} (hw : wh < 3) {K : Int32 → Prop} (h : K (nI (cs2 wh 1 1))) : wX12_begun (nI wh) K := by
  have h1 : wh = 0 ∨ wh = 1 ∨ wh = 2 := by omega
  unfold wX12_begun
  rcases h1 with rfl | rfl | rfl <;>
  · simp (disch := omega) only [q_lit, nI_add, pk_mul, q_a1, q_a3, q_a7, q_a31, q_a63, q_a255, q_a511, q_or, q_shr, q_shl, q_le, q_lt, q_eq, q_in, q_cl, q_neg, q_neg', q_nlt0, q_nle, q_nlt, q_nle', q_nlt', forall_eq, true_implies, false_implies, not_true_eq_false, not_false_eq_true, and_true, true_and, Nat.reduceMod, Nat.reducePow, Nat.reduceAdd, Nat.reduceMul, Nat.reduceDiv, Nat.reduceSub, Nat.reduceEqDiff, Nat.reduceLeDiff, Nat.reduceLT]
    exact h
theorem q_doesTake {t0 t1 : Nat} {tk : Nat → Int32} (h0 : tk 0 = nI t0) (h1 : tk 1 = nI t1) {r c : Nat} (hr : r < 2) (hc : c < 64) {K : Int32 → Prop} (h : K (nI (if c / 8 ^ r % 8 &&& sel r t0 t1 = 0 then 0 else 1))) (ht : sel r t0 t1 < 8) : wX12_doesTake (nI r) (nI c) tk K := by
  have e : tk r = nI (sel r t0 t1) := by
    have : r = 0 ∨ r = 1 := by omega
    rcases this with rfl | rfl
    · exact h0
    · exact h1
  unfold wX12_doesTake
  rw [q_cl (by omega), e]
  simp (disch := omega) only [q_lit, nI_add, pk_mul, q_a1, q_a3, q_a7, q_a31, q_a63, q_a255, q_a511, q_or, q_shr, q_shl, q_le, q_lt, q_eq, q_in, q_cl, q_neg, q_neg', q_nlt0, q_nle, q_nlt, q_nle', q_nlt', forall_eq, true_implies, false_implies, not_true_eq_false, not_false_eq_true, and_true, true_and, Nat.reduceMod, Nat.reducePow, Nat.reduceAdd, Nat.reduceMul, Nat.reduceDiv, Nat.reduceSub, Nat.reduceEqDiff, Nat.reduceLeDiff, Nat.reduceLT]
  rw [show 3 * r % 32 = 3 * r from by omega, q_and]
  have e2 : c / 2 ^ (3 * r) &&& sel r t0 t1 = c / 8 ^ r % 8 &&& sel r t0 t1 := by
    rw [show 8 ^ r = 2 ^ (3 * r) from by rw [Nat.pow_mul]]
    have a : sel r t0 t1 = sel r t0 t1 &&& (2 ^ 3 - 1) := by rw [Nat.and_two_pow_sub_one_eq_mod]; omega
    rw [a, ← Nat.and_assoc, Nat.and_comm, ← Nat.and_assoc]
    rw [show (8 : Nat) = 2 ^ 3 from rfl, ← Nat.and_two_pow_sub_one_eq_mod]
    ac_rfl
  rw [e2]
  have hle : c / 8 ^ r % 8 &&& sel r t0 t1 ≤ c / 8 ^ r % 8 := Nat.and_le_left
  have : c / 8 ^ r % 8 < 8 := Nat.mod_lt _ (by omega)
  refine ⟨hr, ?_⟩
  rw [q_eq (by omega) (by omega)]
  by_cases g : c / 8 ^ r % 8 &&& sel r t0 t1 = 0
  · rw [if_pos g] at h
    exact ⟨fun _ => h, fun g' => absurd g g'⟩
  · rw [if_neg g] at h
    exact ⟨fun g' => absurd g' g, fun _ => h⟩
