theorem sumN_s (f : Nat → Nat) (n : Nat) : sumN f (n + 1) = sumN f n + f n := rfl
theorem sumN_add (f g : Nat → Nat) : ∀ n, sumN (fun i => f i + g i) n = sumN f n + sumN g n
  | 0 => rfl
  | n + 1 => by rw [sumN_s, sumN_s, sumN_s, sumN_add f g n]; omega
theorem sumN_mul (c : Nat) (f : Nat → Nat) : ∀ n, sumN (fun i => c * f i) n = c * sumN f n
  | 0 => rfl
  | n + 1 => by rw [sumN_s, sumN_s, sumN_mul c f n, Nat.mul_add]
theorem sumN_mulr (c : Nat) (f : Nat → Nat) : ∀ n, sumN (fun i => f i * c) n = sumN f n * c
  | 0 => by show 0 = 0 * c; rw [Nat.zero_mul]
  | n + 1 => by rw [sumN_s, sumN_s, sumN_mulr c f n, Nat.add_mul]
theorem sumN_0 {f : Nat → Nat} : ∀ n, (∀ i, i < n → f i = 0) → sumN f n = 0
  | 0, _ => rfl
  | n + 1, h => by rw [sumN_s, sumN_0 n (fun i hi => h i (by omega)), h n (by omega)]
theorem sumN_comm (f : Nat → Nat → Nat) (m : Nat) : ∀ n, sumN (fun i => sumN (fun j => f i j) m) n = sumN (fun j => sumN (fun i => f i j) n) m
  | 0 => (sumN_0 m (fun _ _ => rfl)).symm
  | n + 1 => by
    rw [sumN_s, sumN_comm f m n, ← sumN_add]
    exact sumN_congr m (fun j _ => rfl)
theorem sumN_pt {f : Nat → Nat} {k : Nat} : ∀ n, k < n → (∀ i, i < n → i ≠ k → f i = 0) → sumN f n = f k
  | 0, h, _ => by omega
  | n + 1, hk, h => by
    rw [sumN_s]
    by_cases e : k = n
    · rw [← e, sumN_0 k (fun i hi => h i (by omega) (by omega)), Nat.zero_add]
    · rw [sumN_pt n (by omega) (fun i hi => h i (by omega)), h n (by omega) (by omega), Nat.add_zero]
/-- 1 or 0 -/
noncomputable def ind (P : Prop) : Nat := match Classical.propDecidable P with
  | .isTrue _ => 1
  | .isFalse _ => 0
theorem ind_t {P : Prop} (h : P) : ind P = 1 := by
  unfold ind
  cases Classical.propDecidable P with
  | isTrue _ => rfl
  | isFalse g => exact absurd h g
theorem ind_f {P : Prop} (h : ¬ P) : ind P = 0 := by
  unfold ind
  cases Classical.propDecidable P with
  | isTrue g => exact absurd g h
  | isFalse g => rfl
theorem ind_congr {P Q : Prop} (h : P ↔ Q) : ind P = ind Q := by rw [propext h]
theorem ind_and {P Q : Prop} : ind (P ∧ Q) = ind P * ind Q := by
  by_cases h : P
  · by_cases g : Q
    · rw [ind_t h, ind_t g, ind_t ⟨h, g⟩]
    · rw [ind_f g, ind_f (fun x => g x.2), Nat.mul_zero]
  · rw [ind_f h, ind_f (fun x => h x.1), Nat.zero_mul]
theorem ind_if {P : Prop} [Decidable P] : ind P = if P then 1 else 0 := by
  by_cases h : P
  · rw [ind_t h, if_pos h]
  · rw [ind_f h, if_neg h]
theorem Enum_sum2 {α : Type} {S : α → Prop} {f g : Nat → α} {n m : Nat} (hf : Enum S f n) (hg : Enum S g m) (F : α → Nat) : sumN (fun i => F (f i)) n = sumN (fun j => F (g j)) m := by
  have e1 : sumN (fun i => F (f i)) n = sumN (fun i => sumN (fun j => ind (f i = g j) * F (f i)) m) n := by
    refine sumN_congr n (fun i hi => ?_)
    obtain ⟨j, hj, ej⟩ := hg.2.2 _ (hf.1 i hi)
    rw [sumN_pt m hj (fun k hk ne => by rw [ind_f (fun e => ne (hg.2.1 k j hk hj (by rw [ej, e]))), Nat.zero_mul]), ind_t ej.symm, Nat.one_mul]
  rw [e1, sumN_comm]
  refine sumN_congr m (fun j hj => ?_)
  obtain ⟨i, hi, ei⟩ := hf.2.2 _ (hg.1 j hj)
  rw [sumN_pt n hi (fun k hk ne => by rw [ind_f (fun e => ne (hf.2.1 k i hk hi (by rw [e, ei]))), Nat.zero_mul]), ind_t ei, Nat.one_mul, ei]
/-- a sum over a finite set -/
noncomputable def sumS {α : Type} (S : α → Prop) (F : α → Nat) : Nat := match Classical.propDecidable (∃ q : (Nat → α) × Nat, Enum S q.1 q.2) with
  | .isTrue h => sumN (fun i => F ((Classical.choose h).1 i)) (Classical.choose h).2
  | .isFalse _ => 0
def FinS {α : Type} (S : α → Prop) : Prop := ∃ f : Nat → α, ∃ n, Enum S f n
section
variable {α : Type} {S : α → Prop}
theorem sumS_E {f : Nat → α} {n : Nat} (h : Enum S f n) (F : α → Nat) : sumS S F = sumN (fun i => F (f i)) n := by
  unfold sumS
  cases Classical.propDecidable (∃ q : (Nat → α) × Nat, Enum S q.1 q.2) with
  | isTrue g => exact Enum_sum2 (Classical.choose_spec g) h F
  | isFalse g => exact absurd ⟨(f, n), h⟩ g
theorem sumS_congr (h : FinS S) {F G : α → Nat} (e : ∀ x, S x → F x = G x) : sumS S F = sumS S G := by
  obtain ⟨f, n, h⟩ := h
  rw [sumS_E h, sumS_E h]
  exact sumN_congr n (fun i hi => e _ (h.1 i hi))
theorem sumS_add (h : FinS S) (F G : α → Nat) : sumS S (fun x => F x + G x) = sumS S F + sumS S G := by
  obtain ⟨f, n, h⟩ := h
  rw [sumS_E h, sumS_E h, sumS_E h, sumN_add]
theorem sumS_mul (h : FinS S) (c : Nat) (F : α → Nat) : sumS S (fun x => c * F x) = c * sumS S F := by
  obtain ⟨f, n, h⟩ := h
  rw [sumS_E h, sumS_E h, sumN_mul]
theorem sumS_mulr (h : FinS S) (c : Nat) (F : α → Nat) : sumS S (fun x => F x * c) = sumS S F * c := by
  obtain ⟨f, n, h⟩ := h
  rw [sumS_E h, sumS_E h, sumN_mulr]
theorem sumS_0 (h : FinS S) {F : α → Nat} (e : ∀ x, S x → F x = 0) : sumS S F = 0 := by
  obtain ⟨f, n, h⟩ := h
  rw [sumS_E h]
  exact sumN_0 n (fun i hi => e _ (h.1 i hi))
theorem sumS_pt (h : FinS S) {F : α → Nat} {a : α} (ha : S a) (e : ∀ x, S x → x ≠ a → F x = 0) : sumS S F = F a := by
  obtain ⟨f, n, h⟩ := h
  obtain ⟨i, hi, ei⟩ := h.2.2 a ha
  rw [sumS_E h, sumN_pt n hi (fun k hk ne => e _ (h.1 k hk) (fun g => ne (h.2.1 k i hk hi (by rw [g, ei])))), ei]
theorem sumS_N (h : FinS S) (F : α → Nat → Nat) (m : Nat) : sumS S (fun x => sumN (F x) m) = sumN (fun j => sumS S (fun x => F x j)) m := by
  obtain ⟨f, n, h⟩ := h
  rw [sumS_E h, sumN_comm]
  exact sumN_congr m (fun j _ => (sumS_E h (fun x => F x j)).symm)
theorem sumS_comm {β : Type} {T : β → Prop} (h : FinS S) (h2 : FinS T) (F : α → β → Nat) : sumS S (fun x => sumS T (F x)) = sumS T (fun z => sumS S (fun x => F x z)) := by
  obtain ⟨g, m, h2⟩ := h2
  rw [sumS_congr h (fun x _ => sumS_E h2 (F x)), sumS_N h, sumS_E h2]
end
theorem FinS_WS {y : Sy} {pr : Nat → Nat} {n : Nat} (h : Enum (WS y) pr n) : FinS (WS y) := ⟨pr, n, h⟩
