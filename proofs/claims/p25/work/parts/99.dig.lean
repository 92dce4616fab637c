/-- the letters of the row that a number in base 6 tells -/
def ltC (n code : Nat) : Nat → Nat := fun j => code / 6 ^ (n - 1 - j) % 6
theorem ltC_lt (n code j : Nat) : ltC n code j < 6 := Nat.mod_lt _ (by omega)
theorem ltC_s {d code l j : Nat} (hl : l < 6) (hj : j < d) : ltC (d + 1) (code * 6 + l) j = ltC d code j := by
  unfold ltC
  rw [show d + 1 - 1 - j = (d - 1 - j) + 1 from by omega, Nat.pow_succ, Nat.mul_comm (6 ^ (d - 1 - j)) 6, ← Nat.div_div_eq_div_mul, show (code * 6 + l) / 6 = code from by omega]
theorem ltC_top {d code l : Nat} (hl : l < 6) : ltC (d + 1) (code * 6 + l) d = l := by
  unfold ltC
  rw [show d + 1 - 1 - d = 0 from by omega, Nat.pow_zero, Nat.div_one]; omega
theorem ltC_pre {d r c j : Nat} (hj : j < d) : ltC (d + r) c j = ltC d (c / 6 ^ r) j := by
  unfold ltC
  rw [Nat.div_div_eq_div_mul, ← Nat.pow_add, show d + r - 1 - j = r + (d - 1 - j) from by omega]
theorem p6 : ∀ n, n ≤ 5 → 6 ^ n < 7777 ∧ 1 ≤ 6 ^ n := by decide
theorem rsm_congr {w : Nat → Nat} {n : Nat} {lt lt' : Nat → Nat} : ∀ k, (∀ i, i < k → lt i = lt' i) → rsm w n lt k = rsm w n lt' k
  | 0, _ => rfl
  | k + 1, h => by
    have ih := rsm_congr (w := w) (n := n) k (fun i hi => h i (by omega))
    unfold rsm
    rw [ih, h k (by omega)]
theorem cmA_congr {w : Nat → Nat} {n k : Nat} {lt lt' : Nat → Nat} (h : ∀ i, i < k → lt i = lt' i) : cmA w n lt k = cmA w n lt' k := by unfold cmA; rw [rsm_congr k h]
theorem WkC_congr {w : Nat → Nat} {n k : Nat} {lt lt' : Nat → Nat} {co si : Nat → Int32} (h : ∀ i, i < k → lt i = lt' i) (H : WkC w n lt k co si) : WkC w n lt' k co si := fun j hj => by
  have := H j hj
  have e := rsm_congr (w := w) (n := n) j (fun i hi => h i (Nat.lt_of_lt_of_le hi hj))
  unfold cmA snA at *
  rw [← e]; exact this
theorem or_eq0 {a b : Nat} : a ||| b = 0 ↔ a = 0 ∧ b = 0 := by
  constructor
  · intro h
    have h1 := Nat.left_le_or (n := a) (m := b)
    have h2 := Nat.right_le_or (n := a) (m := b)
    omega
  · rintro ⟨h1, h2⟩
    rw [h1, h2]; rfl
/-- where no run comes, none goes on from -/
theorem cm_dead {n m t : Nat} {w : Nat → Nat} (W : WfR n m t w) {lt : Nat → Nat} {k : Nat} (h : cmA w n lt k = 0) : cmA w n lt (k + 1) = 0 := by
  by_cases h2 : lt k < 2
  · rw [(rsm_open h2).1, h, img_0]
  · by_cases h4 : lt k < 4
    · rw [(rsm_plain (by omega) h4).1, h, img_0]
    · cases e : stk lt k with
      | nil => rw [(rsm_free (by omega) e).1, h, img_0]
      | cons o r =>
        have so := stk_cons lt k o r e
        rw [(rsm_close (by omega) e).1]
        have hb := cm_bas W lt k
        rw [bas_cons e, (rsm_open so.2.2).1, h] at hb
        have a2 : aln w (lt o) = w (3 * lt o + 1) ||| w (3 * lt o + 2) := by
          unfold aln; rw [if_pos (by omega)]
        rw [a2, img_yor, img_or] at hb
        have hb := or_eq0.1 hb.symm
        unfold wrp
        rw [img_yor, ← img_thn3, ← img_thn3, ← img_thn3, ← img_thn3, hb.1, hb.2, img_0, img_0]; rfl
theorem cm_dead2 {n m t : Nat} {w : Nat → Nat} (W : WfR n m t w) {lt : Nat → Nat} {k : Nat} (h : cmA w n lt k = 0) : ∀ j, cmA w n lt (k + j) = 0
  | 0 => h
  | j + 1 => cm_dead W (cm_dead2 W h j)
/-- whether the row of a number is taken -/
def takC (w : Nat → Nat) (ns t n c : Nat) : Bool := tkB t (cmA w ns (ltC n c) n)
theorem cdN_s (p : Nat → Bool) (n : Nat) : cdN p (n + 1) = cdN p n + (if p n then 1 else 0) := rfl
theorem cdN_le2 (p : Nat → Bool) {a b : Nat} (h : a ≤ b) : cdN p a ≤ cdN p b := by
  obtain ⟨d, rfl⟩ : ∃ d, b = a + d := ⟨b - a, by omega⟩
  clear h
  induction d with
  | zero => exact Nat.le_refl _
  | succ d ih => rw [← Nat.add_assoc, cdN_s]; omega
theorem cdN_hit {p : Nat → Bool} {c N : Nat} (hc : c < N) (h : p c = true) : cdN p c + 1 ≤ cdN p N := by
  have := cdN_le2 p (show c + 1 ≤ N from hc)
  rw [cdN_s, if_pos h] at this
  exact this
theorem cdN_add (p : Nat → Bool) (a : Nat) : ∀ b, cdN p (a + b) = cdN p a + cdN (fun i => p (a + i)) b
  | 0 => rfl
  | b + 1 => by rw [← Nat.add_assoc, cdN_s, cdN_add p a b, cdN_s]; omega
theorem cdN_congr {p q : Nat → Bool} : ∀ n, (∀ i, i < n → p i = q i) → cdN p n = cdN q n
  | 0, _ => rfl
  | n + 1, h => by rw [cdN_s, cdN_s, cdN_congr n (fun i hi => h i (by omega)), h n (by omega)]
/-- the i-th row of a length that is taken, its letter k -/
def ofV (P : Nat → Bool) (n i k : Nat) (v : Int32) : Prop :=
  (∃ c, c < 6 ^ n ∧ P c = true ∧ cdN P c = i ∧ ((k < n ∧ v = nI (ltC n c k)) ∨ (n ≤ k ∧ v = -nI 1))) ∨ ((∀ c, c < 6 ^ n → P c = true → cdN P c ≠ i) ∧ v = -nI 1)
theorem ofV_det {P : Nat → Bool} {n i k : Nat} {v v' : Int32} (h : ofV P n i k v) (h' : ofV P n i k v') : v = v' := by
  rcases h with ⟨c, hc, pc, ec, h⟩ | ⟨no, e⟩ <;> rcases h' with ⟨d, hd, pd, ed, h'⟩ | ⟨no', e'⟩
  · have : c = d := by
      rcases Nat.lt_trichotomy c d with g | g | g
      · have := cdN_hit g pc; omega
      · exact g
      · have := cdN_hit g pd; omega
    subst this
    rcases h with ⟨g, e⟩ | ⟨g, e⟩ <;> rcases h' with ⟨g', e'⟩ | ⟨g', e'⟩
    · rw [e, e']
    · omega
    · omega
    · rw [e, e']
  · exact absurd ec (no' c hc pc)
  · exact absurd ed (no d hd pd)
  · rw [e, e']
theorem ofV_out {P : Nat → Bool} {n i k : Nat} (h : n ≤ k) : ofV P n i k (-nI 1) := by
  by_cases g : ∃ c, c < 6 ^ n ∧ P c = true ∧ cdN P c = i
  · obtain ⟨c, h1, h2, h3⟩ := g
    exact .inl ⟨c, h1, h2, h3, .inr ⟨h, rfl⟩⟩
  · exact .inr ⟨fun c h1 h2 h3 => g ⟨c, h1, h2, h3⟩, rfl⟩
