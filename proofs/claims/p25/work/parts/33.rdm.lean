/-- row p of a relation -/
def rw3 (x p : Nat) : Nat := x / 8 ^ p % 8
theorem rw3_lt (x p : Nat) : rw3 x p < 8 := Nat.mod_lt _ (by omega)
def sel {α : Type} (r : Nat) (a b : α) : α := if r = 0 then a else b
/-- the reference's three tables are the two readers' relations -/
def MA (w0 w1 : Nat → Nat) (pu go cl : Nat → Int32) : Prop :=
  (∀ r l p m, r < 2 → l < 2 → p < 3 → m < 2 → pu (((2 * r + l) * 3 + p) * 2 + m) = nI (rw3 (sel r w0 w1 (3 * l + m + 1)) p)) ∧
  (∀ r l p, r < 2 → l < 2 → p < 3 → go ((2 * r + l) * 3 + p) = nI (rw3 (sel r w0 w1 (3 * l + 7)) p)) ∧
  (∀ r l p k, r < 2 → l < 2 → p < 3 → k < 3 → cl (((2 * r + l) * 3 + p) * 3 + k) = nI (rw3 (sel r w0 w1 (3 * l + 12 + k)) p))
theorem q_in3 {x a b : Int32} {K : Int32 → Prop} (h1 : ¬ x < a → ¬ b < x → K (nI 1)) (h0 : (x < a ∨ b < x) → K (nI 0)) : wX12_in x a b K := by
  unfold wX12_in
  exact ⟨fun g => h0 (.inl g), fun g => ⟨fun g' => h0 (.inr g'), fun g' => h1 g g'⟩⟩
/-- in 0 .. n - 1 -/
theorem q_inN {x : Int32} {n : Nat} (h1' : 1 ≤ n) (hn : n < 2147483648) {K : Int32 → Prop} (h1 : ∀ s, s < n → x = nI s → K (nI 1)) (h0 : (∀ s, s < n → x ≠ nI s) → K (nI 0)) : wX12_in x 0 (nI n - 1) K := by
  rw [show nI n - (1 : Int32) = nI (n - 1) from by rw [show (1 : Int32) = nI 1 from rfl, q_subN h1']]
  refine q_in3 (fun g1 g2 => ?_) (fun g => h0 fun s hs e => ?_)
  · rcases q_out (x := x) (N := n) hn with (g | g) | ⟨s, hs, e⟩
    · exact absurd g g1
    · exfalso; apply g2
      rw [Int32.lt_iff_toInt_lt, nI_toInt (by omega)]
      rw [Int32.le_iff_toInt_le, nI_toInt (by omega)] at g
      omega
    · exact h1 s hs e
  · subst e
    rcases g with g | g
    · exact nI_pos (by omega) g
    · rw [q_lt (by omega) (by omega)] at g; omega
theorem q_isR {x : Int32} {K : Int32 → Prop} (h1 : ∀ r, r < 2 → x = nI r → K (nI 1)) (h0 : (∀ r, r < 2 → x ≠ nI r) → K (nI 0)) : wX12_isReader x K := by
  unfold wX12_isReader
  exact q_inN (n := 2) (by omega) (by omega) h1 h0
theorem q_inM {x : Int32} {m : Nat} (m1 : 1 ≤ m) (m2 : m ≤ 2) {K : Int32 → Prop} (h1 : ∀ i, i ≤ m → x + nI 1 = nI i → K (nI 1)) (h0 : (∀ i, i ≤ m → x + nI 1 ≠ nI i) → K (nI 0)) : wX12_in x (-1) (nI m - 1) K := by
  rw [show nI m - (1 : Int32) = nI (m - 1) from by rw [show (1 : Int32) = nI 1 from rfl, q_subN m1], show (-1 : Int32) = -nI 1 from rfl]
  refine q_in3 (fun g1 g2 => ?_) (fun g => h0 fun i hi e => ?_)
  · rw [Int32.lt_iff_toInt_lt, show (-nI 1).toInt = -1 from by decide] at g1
    rw [Int32.lt_iff_toInt_lt, nI_toInt (by omega)] at g2
    by_cases g3 : x.toInt = -1
    · refine h1 0 (by omega) ?_
      have : x = -nI 1 := Int32.toInt_inj.1 (by rw [g3]; decide)
      rw [this]; decide
    · rcases q_out (x := x) (N := m) (by omega) with (g | g) | ⟨s, hs, e⟩
      · rw [Int32.lt_iff_toInt_lt, show (0 : Int32).toInt = 0 from rfl] at g; omega
      · rw [Int32.le_iff_toInt_le, nI_toInt (by omega)] at g; omega
      · exact h1 (s + 1) (by omega) (q_dec_k e)
  · rcases q_k1 e with ⟨g', _⟩ | ⟨i', g', e'⟩
    · subst g'
      rcases g with g | g
      · exact absurd g (by decide)
      · rw [q_nlt (by omega)] at g; exact g
    · subst g'
      rcases g with g | g
      · rw [q_nlt (by omega)] at g; exact g
      · rw [q_lt (by omega) (by omega)] at g; omega
theorem q_isTold {n m t : Nat} {w : Nat → Nat} (W : WfR n m t w) {r : Nat} (hr : r < 2) {st mk : Nat → Int32} (hs : st r = nI n) (hm : mk r = nI m) {p l k q : Int32} {K : Int32 → Prop} (h1 : ∀ a j b, Dec n m p l k q a j b → K (nI 1)) (h0 : (∀ a j b, ¬ Dec n m p l k q a j b) → K (nI 0)) : wX12_isTold (nI r) p l k q st mk K := by
  obtain ⟨n1, n3, m1, m2, _, _, _⟩ := W
  unfold wX12_isTold
  refine q_isR (fun r' hr' er => ?_) (fun g => absurd rfl (g r hr))
  simp (disch := omega) only [q_lit, nI_add, pk_mul, q_a1, q_a3, q_a7, q_a31, q_a63, q_a255, q_a511, q_or, q_shr, q_shl, q_le, q_lt, q_eq, q_in, q_cl, q_neg, q_neg', q_nlt0, q_nle, q_nlt, q_nle', q_nlt', forall_eq, true_implies, false_implies, not_true_eq_false, not_false_eq_true, and_true, true_and, Nat.reduceMod, Nat.reducePow, Nat.reduceAdd, Nat.reduceMul, Nat.reduceDiv, Nat.reduceSub, Nat.reduceEqDiff, Nat.reduceLeDiff, Nat.reduceLT]
  rw [hs, hm]
  refine ⟨hr, q_inN n1 (by omega) (fun a ha ea => ?_) (fun g => ?_)⟩
  rotate_left
  · simp (disch := omega) only [q_lit, nI_add, pk_mul, q_a1, q_a3, q_a7, q_a31, q_a63, q_a255, q_a511, q_or, q_shr, q_shl, q_le, q_lt, q_eq, q_in, q_cl, q_neg, q_neg', q_nlt0, q_nle, q_nlt, q_nle', q_nlt', forall_eq, true_implies, false_implies, not_true_eq_false, not_false_eq_true, and_true, true_and, Nat.reduceMod, Nat.reducePow, Nat.reduceAdd, Nat.reduceMul, Nat.reduceDiv, Nat.reduceSub, Nat.reduceEqDiff, Nat.reduceLeDiff, Nat.reduceLT]
    exact h0 fun a j b hd => g a hd.2.1 hd.1
  simp (disch := omega) only [q_lit, nI_add, pk_mul, q_a1, q_a3, q_a7, q_a31, q_a63, q_a255, q_a511, q_or, q_shr, q_shl, q_le, q_lt, q_eq, q_in, q_cl, q_neg, q_neg', q_nlt0, q_nle, q_nlt, q_nle', q_nlt', forall_eq, true_implies, false_implies, not_true_eq_false, not_false_eq_true, and_true, true_and, Nat.reduceMod, Nat.reducePow, Nat.reduceAdd, Nat.reduceMul, Nat.reduceDiv, Nat.reduceSub, Nat.reduceEqDiff, Nat.reduceLeDiff, Nat.reduceLT]
  refine ⟨hr, q_inN n1 (by omega) (fun b hb eb => ?_) (fun g => ?_)⟩
  rotate_left
  · simp (disch := omega) only [q_lit, nI_add, pk_mul, q_a1, q_a3, q_a7, q_a31, q_a63, q_a255, q_a511, q_or, q_shr, q_shl, q_le, q_lt, q_eq, q_in, q_cl, q_neg, q_neg', q_nlt0, q_nle, q_nlt, q_nle', q_nlt', forall_eq, true_implies, false_implies, not_true_eq_false, not_false_eq_true, and_true, true_and, Nat.reduceMod, Nat.reducePow, Nat.reduceAdd, Nat.reduceMul, Nat.reduceDiv, Nat.reduceSub, Nat.reduceEqDiff, Nat.reduceLeDiff, Nat.reduceLT]
    exact h0 fun a j b hd => g b hd.2.2.2.1 hd.2.2.1
  simp (disch := omega) only [q_lit, nI_add, pk_mul, q_a1, q_a3, q_a7, q_a31, q_a63, q_a255, q_a511, q_or, q_shr, q_shl, q_le, q_lt, q_eq, q_in, q_cl, q_neg, q_neg', q_nlt0, q_nle, q_nlt, q_nle', q_nlt', forall_eq, true_implies, false_implies, not_true_eq_false, not_false_eq_true, and_true, true_and, Nat.reduceMod, Nat.reducePow, Nat.reduceAdd, Nat.reduceMul, Nat.reduceDiv, Nat.reduceSub, Nat.reduceEqDiff, Nat.reduceLeDiff, Nat.reduceLT]
  rw [show nI 5 = nI 6 - 1 from rfl, show nI 0 = (0 : Int32) from rfl]
  refine q_inN (n := 6) (by omega) (by omega) (fun c hc ec => ?_) (fun g => ?_)
  rotate_left
  · simp (disch := omega) only [q_lit, nI_add, pk_mul, q_a1, q_a3, q_a7, q_a31, q_a63, q_a255, q_a511, q_or, q_shr, q_shl, q_le, q_lt, q_eq, q_in, q_cl, q_neg, q_neg', q_nlt0, q_nle, q_nlt, q_nle', q_nlt', forall_eq, true_implies, false_implies, not_true_eq_false, not_false_eq_true, and_true, true_and, Nat.reduceMod, Nat.reducePow, Nat.reduceAdd, Nat.reduceMul, Nat.reduceDiv, Nat.reduceSub, Nat.reduceEqDiff, Nat.reduceLeDiff, Nat.reduceLT]
    exact h0 fun a j b hd => by
      obtain ⟨_, _, _, _, c, i, e, h6, _⟩ := hd
      exact g c h6 e
  subst ec
  simp (disch := omega) only [q_lit, nI_add, pk_mul, q_a1, q_a3, q_a7, q_a31, q_a63, q_a255, q_a511, q_or, q_shr, q_shl, q_le, q_lt, q_eq, q_in, q_cl, q_neg, q_neg', q_nlt0, q_nle, q_nlt, q_nle', q_nlt', forall_eq, true_implies, false_implies, not_true_eq_false, not_false_eq_true, and_true, true_and, Nat.reduceMod, Nat.reducePow, Nat.reduceAdd, Nat.reduceMul, Nat.reduceDiv, Nat.reduceSub, Nat.reduceEqDiff, Nat.reduceLeDiff, Nat.reduceLT]
  refine ⟨fun g2 => ⟨fun g4 => ⟨hr, ?_⟩, fun g4 => ⟨fun g5 => ?_, fun g5 => ?_⟩⟩, fun g2 => ⟨hr, ?_⟩⟩
  · rw [show -nI 1 = (-1 : Int32) from rfl, show nI 1 = (1 : Int32) from rfl]
    refine q_inM m1 m2 (fun i hi ei => ?_) (fun g => ?_)
    · exact h1 a (3 * c + i) b ⟨ea, ha, eb, hb, c, i, rfl, hc, by omega, ei, rfl, by omega, by omega, hi⟩
    · refine h0 ?_
      rintro a' j b' ⟨_, _, _, _, c', i, e, h6, hi, hk, _, h02, _, him⟩
      exact g i him hk
  · exact h1 a (3 * c + 1) b ⟨ea, ha, eb, hb, c, 1, rfl, hc, by omega, by rw [g5]; rfl, rfl, by omega, by omega, m1⟩
  · refine h0 ?_
    rintro a' j b' ⟨_, _, _, _, c', i, e, h6, hi, hk, _, _, h24, _⟩
    rw [q_eq (by omega) (by omega)] at e; subst e
    have : i = 1 := h24 g2 (by omega)
    subst this
    rcases q_k1 hk with ⟨_, g'⟩ | ⟨i', g', g''⟩
    · omega
    · have : i' = 0 := by omega
      subst this; exact g5 g'
  · rw [show nI 0 = (0 : Int32) from rfl, show nI 1 = (1 : Int32) from rfl]
    refine q_inN m1 (by omega) (fun i hi ei => ?_) (fun g => ?_)
    · exact h1 a (3 * c + (i + 1)) b ⟨ea, ha, eb, hb, c, i + 1, rfl, hc, by omega, q_dec_k ei, rfl, by omega, by omega, by omega⟩
    · refine h0 ?_
      rintro a' j b' ⟨_, _, _, _, c', i, e, h6, hi, hk, _, h02, _, him⟩
      rw [q_eq (by omega) (by omega)] at e; subst e
      have := h02 (by omega)
      rcases q_k1 hk with ⟨_, g'⟩ | ⟨i', g', g''⟩
      · omega
      · exact g i' (by omega) g'
theorem q_putAt {r l p i : Nat} {k : Int32} (hk : k + nI 1 = nI i) (hi : 1 ≤ i) {K : Int32 → Prop} (h : K (nI (((2 * r + l) * 3 + p) * 2 + (i - 1)))) : wX12_putAt (nI r) (nI l) (nI p) k K := by
  unfold wX12_putAt
  rcases q_k1 hk with ⟨_, g'⟩ | ⟨i', g', g''⟩
  · omega
  · subst g'; subst g''
    simp only [q_lit, nI_add, pk_mul]
    exact h
theorem q_goAt {r l p : Nat} {K : Int32 → Prop} (hl : 2 ≤ l) (h : K (nI ((2 * r + (l - 2)) * 3 + p))) : wX12_goAt (nI r) (nI l) (nI p) K := by
  unfold wX12_goAt
  simp only [q_lit, nI_add, pk_mul]
  rw [q_subN (by omega), show 2 * r + l - 2 = 2 * r + (l - 2) from by omega]
  simp only [nI_add, pk_mul]
  exact h
theorem q_closeAt {r l p i : Nat} {k : Int32} (hk : k + nI 1 = nI i) (hl : 4 ≤ l) {K : Int32 → Prop} (h : K (nI (((2 * r + (l - 4)) * 3 + p) * 3 + i))) : wX12_closeAt (nI r) (nI l) (nI p) k K := by
  unfold wX12_closeAt
  rw [Int32.add_assoc, show (1 : Int32) = nI 1 from rfl, hk]
  simp only [q_lit, nI_add, pk_mul]
  rw [q_subN (by omega), show 2 * r + l - 4 = 2 * r + (l - 4) from by omega]
  simp only [nI_add, pk_mul]
  exact h
theorem q_tos {n m : Nat} {w0 w1 : Nat → Nat} {pu go cl : Nat → Int32} (A : MA w0 w1 pu go cl) {r : Nat} (hr : r < 2) (n3 : n ≤ 3) {p l k q : Int32} {a j b : Nat} (D : Dec n m p l k q a j b) {K : Int32 → Prop} (h : K (nI (rw3 (sel r w0 w1 j) a))) : wX12_tos (nI r) p l k pu go cl K := by
  obtain ⟨ep, ha, _, _, c, i, el, hc, hi, hk, ej, h02, h24, _⟩ := D
  subst ep; subst el
  obtain ⟨A1, A2, A3⟩ := A
  unfold wX12_tos
  simp (disch := omega) only [q_lit, nI_add, pk_mul, q_a1, q_a3, q_a7, q_a31, q_a63, q_a255, q_a511, q_or, q_shr, q_shl, q_le, q_lt, q_eq, q_in, q_cl, q_neg, q_neg', q_nlt0, q_nle, q_nlt, q_nle', q_nlt', forall_eq, true_implies, false_implies, not_true_eq_false, not_false_eq_true, and_true, true_and, Nat.reduceMod, Nat.reducePow, Nat.reduceAdd, Nat.reduceMul, Nat.reduceDiv, Nat.reduceSub, Nat.reduceEqDiff, Nat.reduceLeDiff, Nat.reduceLT]
  refine ⟨fun g2 => ⟨fun g4 => q_closeAt hk g4 ?_, fun g4 => q_goAt g2 ?_⟩, fun g2 => q_putAt hk (h02 (by omega)) ?_⟩
  · simp (disch := omega) only [q_lit, nI_add, pk_mul, q_a1, q_a3, q_a7, q_a31, q_a63, q_a255, q_a511, q_or, q_shr, q_shl, q_le, q_lt, q_eq, q_in, q_cl, q_neg, q_neg', q_nlt0, q_nle, q_nlt, q_nle', q_nlt', forall_eq, true_implies, false_implies, not_true_eq_false, not_false_eq_true, and_true, true_and, Nat.reduceMod, Nat.reducePow, Nat.reduceAdd, Nat.reduceMul, Nat.reduceDiv, Nat.reduceSub, Nat.reduceEqDiff, Nat.reduceLeDiff, Nat.reduceLT]
    refine ⟨by omega, ?_⟩
    rw [A3 r (c - 4) a i hr (by omega) (by omega) hi, show 3 * (c - 4) + 12 + i = j from by omega]
    exact h
  · simp (disch := omega) only [q_lit, nI_add, pk_mul, q_a1, q_a3, q_a7, q_a31, q_a63, q_a255, q_a511, q_or, q_shr, q_shl, q_le, q_lt, q_eq, q_in, q_cl, q_neg, q_neg', q_nlt0, q_nle, q_nlt, q_nle', q_nlt', forall_eq, true_implies, false_implies, not_true_eq_false, not_false_eq_true, and_true, true_and, Nat.reduceMod, Nat.reducePow, Nat.reduceAdd, Nat.reduceMul, Nat.reduceDiv, Nat.reduceSub, Nat.reduceEqDiff, Nat.reduceLeDiff, Nat.reduceLT]
    refine ⟨by omega, ?_⟩
    have := h24 g2 (by omega)
    rw [A2 r (c - 2) a hr (by omega) (by omega), show 3 * (c - 2) + 7 = j from by omega]
    exact h
  · have := h02 (by omega)
    simp (disch := omega) only [q_lit, nI_add, pk_mul, q_a1, q_a3, q_a7, q_a31, q_a63, q_a255, q_a511, q_or, q_shr, q_shl, q_le, q_lt, q_eq, q_in, q_cl, q_neg, q_neg', q_nlt0, q_nle, q_nlt, q_nle', q_nlt', forall_eq, true_implies, false_implies, not_true_eq_false, not_false_eq_true, and_true, true_and, Nat.reduceMod, Nat.reducePow, Nat.reduceAdd, Nat.reduceMul, Nat.reduceDiv, Nat.reduceSub, Nat.reduceEqDiff, Nat.reduceLeDiff, Nat.reduceLT]
    refine ⟨by omega, ?_⟩
    rw [A1 r c a (i - 1) hr (by omega) (by omega) (by omega), show 3 * c + (i - 1) + 1 = j from by omega]
    exact h
theorem sel_upd {r r' : Nat} (hr : r < 2) (hr' : r' < 2) (w0 w1 : Nat → Nat) (j y i : Nat) : sel r' (sel r (updN w0 j y) w0) (sel r w1 (updN w1 j y)) i = if r' = r ∧ i = j then y else sel r' w0 w1 i := by
  have h1 : r = 0 ∨ r = 1 := by omega
  have h2 : r' = 0 ∨ r' = 1 := by omega
  rcases h1 with rfl | rfl <;> rcases h2 with rfl | rfl <;> simp [sel, updN]
theorem q_tell {n m : Nat} {w0 w1 : Nat → Nat} {pu go cl : Nat → Int32} (A : MA w0 w1 pu go cl) {r : Nat} (hr : r < 2) (n3 : n ≤ 3) {p l k q : Int32} {a j b : Nat} (D : Dec n m p l k q a j b) {v y : Nat} (hy : ∀ p', p' < 3 → rw3 y p' = if p' = a then v else rw3 (sel r w0 w1 j) p') {kn : Int32} {K : Int32 → (Nat → Int32) → (Nat → Int32) → (Nat → Int32) → Prop}
    (h : ∀ pu' go' cl', MA (sel r (updN w0 j y) w0) (sel r w1 (updN w1 j y)) pu' go' cl' → K (-nI 1) pu' go' cl') : wX12_tell (nI r) p l k (nI v) kn pu go cl K := by
  obtain ⟨ep, ha, _, _, c, i, el, hc, hi, hk, ej, h02, h24, _⟩ := D
  subst ep; subst el
  obtain ⟨A1, A2, A3⟩ := A
  unfold wX12_tell
  simp (disch := omega) only [q_lit, nI_add, pk_mul, q_a1, q_a3, q_a7, q_a31, q_a63, q_a255, q_a511, q_or, q_shr, q_shl, q_le, q_lt, q_eq, q_in, q_cl, q_neg, q_neg', q_nlt0, q_nle, q_nlt, q_nle', q_nlt', forall_eq, true_implies, false_implies, not_true_eq_false, not_false_eq_true, and_true, true_and, Nat.reduceMod, Nat.reducePow, Nat.reduceAdd, Nat.reduceMul, Nat.reduceDiv, Nat.reduceSub, Nat.reduceEqDiff, Nat.reduceLeDiff, Nat.reduceLT]
  refine ⟨fun g2 => ⟨fun g4 => q_closeAt hk g4 ?_, fun g4 => q_goAt g2 ?_⟩, fun g2 => q_putAt hk (h02 (by omega)) ?_⟩
  · simp (disch := omega) only [q_lit, nI_add, pk_mul, q_a1, q_a3, q_a7, q_a31, q_a63, q_a255, q_a511, q_or, q_shr, q_shl, q_le, q_lt, q_eq, q_in, q_cl, q_neg, q_neg', q_nlt0, q_nle, q_nlt, q_nle', q_nlt', forall_eq, true_implies, false_implies, not_true_eq_false, not_false_eq_true, and_true, true_and, Nat.reduceMod, Nat.reducePow, Nat.reduceAdd, Nat.reduceMul, Nat.reduceDiv, Nat.reduceSub, Nat.reduceEqDiff, Nat.reduceLeDiff, Nat.reduceLT]
    refine ⟨by omega, h _ _ _ ⟨fun r' l' p' m' hr' hl' hp' hm' => ?_, fun r' l' p' hr' hl' hp' => ?_, fun r' l' p' k' hr' hl' hp' hk' => ?_⟩⟩
    · rw [sel_upd hr hr', A1 r' l' p' m' hr' hl' hp' hm', if_neg (by omega)]
    · rw [sel_upd hr hr', A2 r' l' p' hr' hl' hp', if_neg (by omega)]
    · rw [sel_upd hr hr', q_ap]
      by_cases g : r' = r ∧ 3 * l' + 12 + k' = j
      · rw [if_pos g, hy p' hp']
        by_cases g' : p' = a
        · rw [if_pos g', if_pos (by obtain ⟨e1, e2⟩ := g; subst e1; have : l' = c - 4 ∧ k' = i := by omega
                                    rw [this.1, this.2, g'])]
        · rw [if_neg g', if_neg (by omega), A3 r' l' p' k' hr' hl' hp' hk', g.1, g.2]
      · rw [if_neg g, if_neg (by omega), A3 r' l' p' k' hr' hl' hp' hk']
  · have := h24 g2 (by omega)
    simp (disch := omega) only [q_lit, nI_add, pk_mul, q_a1, q_a3, q_a7, q_a31, q_a63, q_a255, q_a511, q_or, q_shr, q_shl, q_le, q_lt, q_eq, q_in, q_cl, q_neg, q_neg', q_nlt0, q_nle, q_nlt, q_nle', q_nlt', forall_eq, true_implies, false_implies, not_true_eq_false, not_false_eq_true, and_true, true_and, Nat.reduceMod, Nat.reducePow, Nat.reduceAdd, Nat.reduceMul, Nat.reduceDiv, Nat.reduceSub, Nat.reduceEqDiff, Nat.reduceLeDiff, Nat.reduceLT]
    refine ⟨by omega, h _ _ _ ⟨fun r' l' p' m' hr' hl' hp' hm' => ?_, fun r' l' p' hr' hl' hp' => ?_, fun r' l' p' k' hr' hl' hp' hk' => ?_⟩⟩
    · rw [sel_upd hr hr', A1 r' l' p' m' hr' hl' hp' hm', if_neg (by omega)]
    · rw [sel_upd hr hr', q_ap]
      by_cases g : r' = r ∧ 3 * l' + 7 = j
      · rw [if_pos g, hy p' hp']
        by_cases g' : p' = a
        · rw [if_pos g', if_pos (by obtain ⟨e1, e2⟩ := g; subst e1; have : l' = c - 2 := by omega
                                    rw [this, g'])]
        · rw [if_neg g', if_neg (by omega), A2 r' l' p' hr' hl' hp', g.1, g.2]
      · rw [if_neg g, if_neg (by omega), A2 r' l' p' hr' hl' hp']
    · rw [sel_upd hr hr', A3 r' l' p' k' hr' hl' hp' hk', if_neg (by omega)]
  · have := h02 (by omega)
    simp (disch := omega) only [q_lit, nI_add, pk_mul, q_a1, q_a3, q_a7, q_a31, q_a63, q_a255, q_a511, q_or, q_shr, q_shl, q_le, q_lt, q_eq, q_in, q_cl, q_neg, q_neg', q_nlt0, q_nle, q_nlt, q_nle', q_nlt', forall_eq, true_implies, false_implies, not_true_eq_false, not_false_eq_true, and_true, true_and, Nat.reduceMod, Nat.reducePow, Nat.reduceAdd, Nat.reduceMul, Nat.reduceDiv, Nat.reduceSub, Nat.reduceEqDiff, Nat.reduceLeDiff, Nat.reduceLT]
    refine ⟨by omega, h _ _ _ ⟨fun r' l' p' m' hr' hl' hp' hm' => ?_, fun r' l' p' hr' hl' hp' => ?_, fun r' l' p' k' hr' hl' hp' hk' => ?_⟩⟩
    · rw [sel_upd hr hr', q_ap]
      by_cases g : r' = r ∧ 3 * l' + m' + 1 = j
      · rw [if_pos g, hy p' hp']
        by_cases g' : p' = a
        · rw [if_pos g', if_pos (by obtain ⟨e1, e2⟩ := g; subst e1; have : l' = c ∧ m' = i - 1 := by omega
                                    rw [this.1, this.2, g'])]
        · rw [if_neg g', if_neg (by omega), A1 r' l' p' m' hr' hl' hp' hm', g.1, g.2]
      · rw [if_neg g, if_neg (by omega), A1 r' l' p' m' hr' hl' hp' hm']
    · rw [sel_upd hr hr', A2 r' l' p' hr' hl' hp', if_neg (by omega)]
    · rw [sel_upd hr hr', A3 r' l' p' k' hr' hl' hp' hk', if_neg (by omega)]
theorem rw3_or : ∀ x, x < 512 → ∀ a, a < 3 → ∀ b, b < 3 → ∀ p, p < 3 → rw3 (x ||| 2 ^ (3 * a + b)) p = if p = a then rw3 x a ||| 2 ^ b else rw3 x p := by decide +kernel
theorem rw3_clr : ∀ x, x < 512 → ∀ a, a < 3 → ∀ b, b < 3 → ∀ p, p < 3 → rw3 (clr x (3 * a + b)) p = if p = a then clr (rw3 x a) b else rw3 x p := by decide +kernel
theorem rw3_tb : ∀ x, x < 512 → ∀ a, a < 3 → ∀ b, b < 3 → rw3 x a / 2 ^ b % 2 = if x.testBit (3 * a + b) then 1 else 0 := by decide +kernel
theorem bits3 : ∀ x, x < 8 → x % 2 + x / 2 % 2 + x / 4 % 2 ≤ 3 := by decide
def pc3 (x : Nat) : Nat := x % 2 + x / 2 % 2 + x / 4 % 2
theorem pc9_3 (x : Nat) : pc9 x = pc3 (rw3 x 0) + pc3 (rw3 x 1) + pc3 (rw3 x 2) := by
  unfold pc9 pc3 rw3
  omega
theorem q_bits {x : Nat} (hx : x < 8) {K : Int32 → Prop} (h : K (nI (pc3 x))) : wX12_bits (nI x) K := by
  unfold wX12_bits wX12_bits_L4
  intro P hP
  refine hP _ _ ?_
  simp (disch := omega) only [q_lit, nI_add, pk_mul, q_a1, q_a3, q_a7, q_a31, q_a63, q_a255, q_a511, q_or, q_shr, q_shl, q_le, q_lt, q_eq, q_in, q_cl, q_neg, q_neg', q_nlt0, q_nle, q_nlt, q_nle', q_nlt', forall_eq, true_implies, false_implies, not_true_eq_false, not_false_eq_true, and_true, true_and, Nat.reduceMod, Nat.reducePow, Nat.reduceAdd, Nat.reduceMul, Nat.reduceDiv, Nat.reduceSub, Nat.reduceEqDiff, Nat.reduceLeDiff, Nat.reduceLT]
  refine hP _ _ ?_
  simp (disch := omega) only [q_lit, nI_add, pk_mul, q_a1, q_a3, q_a7, q_a31, q_a63, q_a255, q_a511, q_or, q_shr, q_shl, q_le, q_lt, q_eq, q_in, q_cl, q_neg, q_neg', q_nlt0, q_nle, q_nlt, q_nle', q_nlt', forall_eq, true_implies, false_implies, not_true_eq_false, not_false_eq_true, and_true, true_and, Nat.reduceMod, Nat.reducePow, Nat.reduceAdd, Nat.reduceMul, Nat.reduceDiv, Nat.reduceSub, Nat.reduceEqDiff, Nat.reduceLeDiff, Nat.reduceLT]
  refine hP _ _ ?_
  simp (disch := omega) only [q_lit, nI_add, pk_mul, q_a1, q_a3, q_a7, q_a31, q_a63, q_a255, q_a511, q_or, q_shr, q_shl, q_le, q_lt, q_eq, q_in, q_cl, q_neg, q_neg', q_nlt0, q_nle, q_nlt, q_nle', q_nlt', forall_eq, true_implies, false_implies, not_true_eq_false, not_false_eq_true, and_true, true_and, Nat.reduceMod, Nat.reducePow, Nat.reduceAdd, Nat.reduceMul, Nat.reduceDiv, Nat.reduceSub, Nat.reduceEqDiff, Nat.reduceLeDiff, Nat.reduceLT]
  refine hP _ _ ?_
  simp (disch := omega) only [q_lit, nI_add, pk_mul, q_a1, q_a3, q_a7, q_a31, q_a63, q_a255, q_a511, q_or, q_shr, q_shl, q_le, q_lt, q_eq, q_in, q_cl, q_neg, q_neg', q_nlt0, q_nle, q_nlt, q_nle', q_nlt', forall_eq, true_implies, false_implies, not_true_eq_false, not_false_eq_true, and_true, true_and, Nat.reduceMod, Nat.reducePow, Nat.reduceAdd, Nat.reduceMul, Nat.reduceDiv, Nat.reduceSub, Nat.reduceEqDiff, Nat.reduceLeDiff, Nat.reduceLT, Nat.le_refl]
  have e : 0 + x / 1 % 2 + x / 2 % 2 + x / 4 % 2 = pc3 x := by unfold pc3; omega
  rw [e]
  exact h
theorem pc3_le (x : Nat) : pc3 x ≤ 3 := by unfold pc3; omega
theorem q_movesOf {n m t : Nat} {w0 w1 : Nat → Nat} {pu go cl : Nat → Int32} (A : MA w0 w1 pu go cl) {r : Nat} (hr : r < 2) (W : WfR n m t (sel r w0 w1)) {K : Int32 → Prop} (h : K (nI (sumN (fun j => pc9 (sel r w0 w1 j)) 18))) : wX12_movesOf (nI r) pu go cl K := by
  obtain ⟨A1, A2, A3⟩ := A
  obtain ⟨_, _, _, _, _, _, hz⟩ := W
  obtain ⟨w, ew⟩ : ∃ w, w = sel r w0 w1 := ⟨_, rfl⟩
  rw [← ew] at h hz
  have z0 := hz 0 rfl; have z3 := hz 3 rfl; have z6 := hz 6 rfl; have z8 := hz 8 rfl; have z9 := hz 9 rfl; have z11 := hz 11 rfl
  have F1 : ∀ k, k < 12 → pu (12 * r + k) = nI (rw3 (w (3 * (k / 6) + k % 2 + 1)) (k / 2 % 3)) := fun k hk => by
    rw [ew, ← A1 r (k / 6) (k / 2 % 3) (k % 2) hr (by omega) (by omega) (by omega)]
    congr 1; omega
  have F2 : ∀ k, k < 6 → go (6 * r + k) = nI (rw3 (w (3 * (k / 3) + 7)) (k % 3)) := fun k hk => by
    rw [ew, ← A2 r (k / 3) (k % 3) hr (by omega) (by omega)]
    congr 1; omega
  have F3 : ∀ k, k < 18 → cl (18 * r + k) = nI (rw3 (w (3 * (k / 9) + 12 + k % 3)) (k / 3 % 3)) := fun k hk => by
    rw [ew, ← A3 r (k / 9) (k / 3 % 3) (k % 3) hr (by omega) (by omega) (by omega)]
    congr 1; omega
  obtain ⟨f1, e1⟩ : ∃ f : Nat → Nat, f = fun k => pc3 (rw3 (w (3 * (k / 6) + k % 2 + 1)) (k / 2 % 3)) := ⟨_, rfl⟩
  obtain ⟨f2, e2⟩ : ∃ f : Nat → Nat, f = fun k => pc3 (rw3 (w (3 * (k / 3) + 7)) (k % 3)) := ⟨_, rfl⟩
  obtain ⟨f3, e3⟩ : ∃ f : Nat → Nat, f = fun k => pc3 (rw3 (w (3 * (k / 9) + 12 + k % 3)) (k / 3 % 3)) := ⟨_, rfl⟩
  have b1 : sumN f1 12 + (sumN f2 6 + sumN f3 18) = sumN (fun j => pc9 (w j)) 18 := by
    simp only [e1, e2, e3, sumN, pc9_3, z0, z3, z6, z8, z9, z11, Nat.reduceDiv, Nat.reduceMod, Nat.reduceMul, Nat.reduceAdd]
    simp only [rw3, pc3]
    omega
  have g1 : ∀ i, f1 i ≤ 3 := fun i => by rw [e1]; exact pc3_le _
  have g2 : ∀ i, f2 i ≤ 3 := fun i => by rw [e2]; exact pc3_le _
  have g3 : ∀ i, f3 i ≤ 3 := fun i => by rw [e3]; exact pc3_le _
  unfold wX12_movesOf wX12_movesOf_L4
  intro P hP
  refine q_cnt0 (Q := fun i => P (nI (sumN f1 i)) (nI i)) 12 ?_ ?_
  · refine hP _ _ ?_
    simp (disch := omega) only [q_lit, nI_add, pk_mul, q_a1, q_a3, q_a7, q_a31, q_a63, q_a255, q_a511, q_or, q_shr, q_shl, q_le, q_lt, q_eq, q_in, q_cl, q_neg, q_neg', q_nlt0, q_nle, q_nlt, q_nle', q_nlt', forall_eq, true_implies, false_implies, not_true_eq_false, not_false_eq_true, and_true, true_and, Nat.reduceMod, Nat.reducePow, Nat.reduceAdd, Nat.reduceMul, Nat.reduceDiv, Nat.reduceSub, Nat.reduceEqDiff, Nat.reduceLeDiff, Nat.reduceLT, Nat.le_refl]
    unfold wX12_movesOf_L35
    intro P hP
    refine q_cnt0 (Q := fun i => P (nI (sumN f1 12 + sumN f2 i)) (nI i)) 6 ?_ ?_
    · refine hP _ _ ?_
      simp (disch := omega) only [q_lit, nI_add, pk_mul, q_a1, q_a3, q_a7, q_a31, q_a63, q_a255, q_a511, q_or, q_shr, q_shl, q_le, q_lt, q_eq, q_in, q_cl, q_neg, q_neg', q_nlt0, q_nle, q_nlt, q_nle', q_nlt', forall_eq, true_implies, false_implies, not_true_eq_false, not_false_eq_true, and_true, true_and, Nat.reduceMod, Nat.reducePow, Nat.reduceAdd, Nat.reduceMul, Nat.reduceDiv, Nat.reduceSub, Nat.reduceEqDiff, Nat.reduceLeDiff, Nat.reduceLT, Nat.le_refl]
      unfold wX12_movesOf_L66
      intro P hP
      refine q_cnt0 (Q := fun i => P (nI (sumN f1 12 + sumN f2 6 + sumN f3 i)) (nI i)) 18 ?_ ?_
      · refine hP _ _ ?_
        simp (disch := omega) only [q_lit, nI_add, pk_mul, q_a1, q_a3, q_a7, q_a31, q_a63, q_a255, q_a511, q_or, q_shr, q_shl, q_le, q_lt, q_eq, q_in, q_cl, q_neg, q_neg', q_nlt0, q_nle, q_nlt, q_nle', q_nlt', forall_eq, true_implies, false_implies, not_true_eq_false, not_false_eq_true, and_true, true_and, Nat.reduceMod, Nat.reducePow, Nat.reduceAdd, Nat.reduceMul, Nat.reduceDiv, Nat.reduceSub, Nat.reduceEqDiff, Nat.reduceLeDiff, Nat.reduceLT, Nat.le_refl]
        rw [Nat.add_assoc, b1]; exact h
      · intro i hi ih
        refine hP _ _ ?_
        simp (disch := omega) only [q_lit, nI_add, pk_mul, q_a1, q_a3, q_a7, q_a31, q_a63, q_a255, q_a511, q_or, q_shr, q_shl, q_le, q_lt, q_eq, q_in, q_cl, q_neg, q_neg', q_nlt0, q_nle, q_nlt, q_nle', q_nlt', forall_eq, true_implies, false_implies, not_true_eq_false, not_false_eq_true, and_true, true_and, Nat.reduceMod, Nat.reducePow, Nat.reduceAdd, Nat.reduceMul, Nat.reduceDiv, Nat.reduceSub, Nat.reduceEqDiff, Nat.reduceLeDiff, Nat.reduceLT]
        refine ⟨fun g => absurd g (by omega), fun _ => ⟨by omega, ?_⟩⟩
        rw [F3 i hi]
        refine q_bits (rw3_lt _ _) ?_
        simp (disch := omega) only [q_lit, nI_add, pk_mul, q_a1, q_a3, q_a7, q_a31, q_a63, q_a255, q_a511, q_or, q_shr, q_shl, q_le, q_lt, q_eq, q_in, q_cl, q_neg, q_neg', q_nlt0, q_nle, q_nlt, q_nle', q_nlt', forall_eq, true_implies, false_implies, not_true_eq_false, not_false_eq_true, and_true, true_and, Nat.reduceMod, Nat.reducePow, Nat.reduceAdd, Nat.reduceMul, Nat.reduceDiv, Nat.reduceSub, Nat.reduceEqDiff, Nat.reduceLeDiff, Nat.reduceLT]
        rw [show sumN f3 (i + 1) = sumN f3 i + f3 i from rfl, e3, ← Nat.add_assoc] at ih
        rw [e3]; exact ih
    · intro i hi ih
      refine hP _ _ ?_
      simp (disch := omega) only [q_lit, nI_add, pk_mul, q_a1, q_a3, q_a7, q_a31, q_a63, q_a255, q_a511, q_or, q_shr, q_shl, q_le, q_lt, q_eq, q_in, q_cl, q_neg, q_neg', q_nlt0, q_nle, q_nlt, q_nle', q_nlt', forall_eq, true_implies, false_implies, not_true_eq_false, not_false_eq_true, and_true, true_and, Nat.reduceMod, Nat.reducePow, Nat.reduceAdd, Nat.reduceMul, Nat.reduceDiv, Nat.reduceSub, Nat.reduceEqDiff, Nat.reduceLeDiff, Nat.reduceLT]
      refine ⟨fun g => absurd g (by omega), fun _ => ⟨by omega, ?_⟩⟩
      rw [F2 i hi]
      refine q_bits (rw3_lt _ _) ?_
      simp (disch := omega) only [q_lit, nI_add, pk_mul, q_a1, q_a3, q_a7, q_a31, q_a63, q_a255, q_a511, q_or, q_shr, q_shl, q_le, q_lt, q_eq, q_in, q_cl, q_neg, q_neg', q_nlt0, q_nle, q_nlt, q_nle', q_nlt', forall_eq, true_implies, false_implies, not_true_eq_false, not_false_eq_true, and_true, true_and, Nat.reduceMod, Nat.reducePow, Nat.reduceAdd, Nat.reduceMul, Nat.reduceDiv, Nat.reduceSub, Nat.reduceEqDiff, Nat.reduceLeDiff, Nat.reduceLT]
      rw [show sumN f2 (i + 1) = sumN f2 i + f2 i from rfl, e2, ← Nat.add_assoc] at ih
      rw [e2]; exact ih
  · intro i hi ih
    refine hP _ _ ?_
    simp (disch := omega) only [q_lit, nI_add, pk_mul, q_a1, q_a3, q_a7, q_a31, q_a63, q_a255, q_a511, q_or, q_shr, q_shl, q_le, q_lt, q_eq, q_in, q_cl, q_neg, q_neg', q_nlt0, q_nle, q_nlt, q_nle', q_nlt', forall_eq, true_implies, false_implies, not_true_eq_false, not_false_eq_true, and_true, true_and, Nat.reduceMod, Nat.reducePow, Nat.reduceAdd, Nat.reduceMul, Nat.reduceDiv, Nat.reduceSub, Nat.reduceEqDiff, Nat.reduceLeDiff, Nat.reduceLT]
    refine ⟨fun g => absurd g (by omega), fun _ => ⟨by omega, ?_⟩⟩
    rw [F1 i hi]
    refine q_bits (rw3_lt _ _) ?_
    simp (disch := omega) only [q_lit, nI_add, pk_mul, q_a1, q_a3, q_a7, q_a31, q_a63, q_a255, q_a511, q_or, q_shr, q_shl, q_le, q_lt, q_eq, q_in, q_cl, q_neg, q_neg', q_nlt0, q_nle, q_nlt, q_nle', q_nlt', forall_eq, true_implies, false_implies, not_true_eq_false, not_false_eq_true, and_true, true_and, Nat.reduceMod, Nat.reducePow, Nat.reduceAdd, Nat.reduceMul, Nat.reduceDiv, Nat.reduceSub, Nat.reduceEqDiff, Nat.reduceLeDiff, Nat.reduceLT]
    rw [show sumN f1 (i + 1) = sumN f1 i + f1 i from rfl, e1] at ih
    rw [e1]; exact ih
