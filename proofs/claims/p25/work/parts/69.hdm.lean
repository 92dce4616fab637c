theorem q_bitR : ∀ x, x < 8 → ∀ b, b < 3 → (nI x >>> (nI b &&& 31)) &&& 1 = nI (if x.testBit b then 1 else 0) := by decide +kernel
theorem q_clrR : ∀ x, x < 8 → ∀ b, b < 3 → nI x &&& ((1 <<< (nI b &&& 31)) ^^^ -1) = nI (clr x b) := by decide +kernel
theorem rw3_bit : ∀ x, x < 512 → ∀ a, a < 3 → ∀ b, b < 3 → (rw3 x a).testBit b = x.testBit (3 * a + b) := by decide +kernel
section
variable {n0 m0 t0 n1 m1 t1 : Nat} {w0 w1 : Nat → Nat} {st mk tk pu go cl : Nat → Int32}
theorem m_told (M : MdOk n0 m0 t0 w0 n1 m1 t1 w1 st mk tk pu go cl) {x p l k q : Int32} {K : Int32 → Prop}
    (h1 : ∀ r a j b, r < 2 → x = nI r → Dec (sel r n0 n1) (sel r m0 m1) p l k q a j b → K (nI 1))
    (h0 : (∀ r a j b, r < 2 → x = nI r → ¬ Dec (sel r n0 n1) (sel r m0 m1) p l k q a j b) → K (nI 0)) :
    wX12_isTold x p l k q st mk K := by
  by_cases g : ∃ r, r < 2 ∧ x = nI r
  · obtain ⟨r, hr, er⟩ := g
    subst er
    obtain ⟨W, hs, hm, _⟩ := MdOk_r M hr
    refine q_isTold W hr hs hm (fun a j b D => h1 r a j b hr rfl D) (fun g => h0 (fun r' a j b hr' e => ?_))
    rw [q_eq (by omega) (by omega)] at e
    subst e
    exact g a j b
  · have g' : ∀ r, r < 2 → x ≠ nI r := fun r hr e => g ⟨r, hr, e⟩
    unfold wX12_isTold
    refine q_isR (fun r hr e => absurd e (g' r hr)) (fun _ => ?_)
    have := h0 (fun r _ _ _ hr e => absurd e (g' r hr))
    simp (disch := omega) only [q_lit, nI_add, pk_mul, q_a1, q_a3, q_a7, q_a31, q_a63, q_a255, q_a511, q_or, q_shr, q_shl, q_le, q_lt, q_eq, q_in, q_cl, q_neg, q_neg', q_nlt0, q_nle, q_nlt, q_nle', q_nlt', forall_eq, true_implies, false_implies, not_true_eq_false, not_false_eq_true, and_true, true_and, Nat.reduceMod, Nat.reducePow, Nat.reduceAdd, Nat.reduceMul, Nat.reduceDiv, Nat.reduceSub, Nat.reduceEqDiff, Nat.reduceLeDiff, Nat.reduceLT]
    first
      | exact this
      | exact ⟨fun _ => this, fun g => absurd rfl g⟩
theorem m_has (M : MdOk n0 m0 t0 w0 n1 m1 t1 w1 st mk tk pu go cl) {x p l k q : Int32} {K : Int32 → Prop}
    (h1 : ∀ r a j b, r < 2 → x = nI r → Dec (sel r n0 n1) (sel r m0 m1) p l k q a j b → K (nI (if (sel r w0 w1 j).testBit (3 * a + b) then 1 else 0)))
    (h0 : (∀ r a j b, r < 2 → x = nI r → ¬ Dec (sel r n0 n1) (sel r m0 m1) p l k q a j b) → K (-nI 2)) :
    wX12_has x p l k q st mk pu go cl K := by
  unfold wX12_has
  refine m_told M (fun r a j b hr er D => ⟨fun g => absurd g (by decide), fun _ => ?_⟩) (fun g => ⟨fun _ => h0 g, fun g => absurd rfl g⟩)
  subst er
  obtain ⟨W, _⟩ := MdOk_r M hr
  have hj := Dec_j D W.2.1 W.2.2.2.1
  refine q_tos M.2.2.1 hr W.2.1 D ?_
  rw [D.2.2.1, q_bitR _ (rw3_lt _ _) _ hj.2.1, rw3_bit _ (W.2.2.2.2.2.1 j).1 _ hj.1 _ hj.2.1]
  exact h1 r a j b hr rfl D
theorem MdOk_upd (M : MdOk n0 m0 t0 w0 n1 m1 t1 w1 st mk tk pu go cl) {r j v : Nat} (hr : r < 2) {pu' go' cl' : Nat → Int32} (A' : MA (sel r (updN w0 j v) w0) (sel r w1 (updN w1 j v)) pu' go' cl') (W' : WfR (sel r n0 n1) (sel r m0 m1) (sel r t0 t1) (updN (sel r w0 w1) j v)) : MdOk n0 m0 t0 (sel r (updN w0 j v) w0) n1 m1 t1 (sel r w1 (updN w1 j v)) st mk tk pu' go' cl' := by
  obtain ⟨W0, W1, _, R⟩ := M
  rcases (show r = 0 ∨ r = 1 by omega) with e | e <;> subst e
  · exact ⟨W', W1, A', R⟩
  · exact ⟨W0, W', A', R⟩
theorem m_drop (M : MdOk n0 m0 t0 w0 n1 m1 t1 w1 st mk tk pu go cl) {x p l k q kn : Int32} {K : Int32 → Int32 → (Nat → Int32) → (Nat → Int32) → (Nat → Int32) → Prop}
    (h1 : ∀ r a j b, r < 2 → x = nI r → Dec (sel r n0 n1) (sel r m0 m1) p l k q a j b → (sel r w0 w1 j).testBit (3 * a + b) = true → ∀ pu' go' cl',
      MdOk n0 m0 t0 (sel r (updN w0 j (clr (sel r w0 w1 j) (3 * a + b))) w0) n1 m1 t1 (sel r w1 (updN w1 j (clr (sel r w0 w1 j) (3 * a + b)))) st mk tk pu' go' cl' →
      K (nI (sumN (fun i => pc9 (updN (sel r w0 w1) j (clr (sel r w0 w1 j) (3 * a + b)) i)) 18)) (-nI 1) pu' go' cl')
    (h0 : (∀ r a j b, r < 2 → x = nI r → Dec (sel r n0 n1) (sel r m0 m1) p l k q a j b → (sel r w0 w1 j).testBit (3 * a + b) = false) → K (-nI 2) kn pu go cl) :
    wX12_drop x p l k q kn st mk pu go cl K := by
  unfold wX12_drop
  refine m_told M (fun r a j b hr er D => ⟨fun g => absurd g (by decide), fun _ => ?_⟩) (fun g => ⟨fun _ => h0 (fun r a j b hr e D => absurd D (g r a j b hr e)), fun g => absurd rfl g⟩)
  subst er
  obtain ⟨W, _⟩ := MdOk_r M hr
  have hj := Dec_j D W.2.1 W.2.2.2.1
  refine q_tos M.2.2.1 hr W.2.1 D ?_
  rw [D.2.2.1, q_bitR _ (rw3_lt _ _) _ hj.2.1, rw3_bit _ (W.2.2.2.2.2.1 j).1 _ hj.1 _ hj.2.1]
  cases ht : (sel r w0 w1 j).testBit (3 * a + b) with
  | false =>
    refine ⟨fun _ => h0 (fun r' a' j' b' hr' e D' => ?_), fun g => absurd rfl g⟩
    rw [q_eq (by omega) (by omega)] at e
    subst e
    obtain ⟨e1, e2, e3⟩ := Dec_det D D' W.2.1 W.2.2.2.1
    subst e1; subst e2; subst e3
    exact ht
  | true =>
    refine ⟨fun g => absurd g (by decide), fun _ => q_tos M.2.2.1 hr W.2.1 D ?_⟩
    rw [q_clrR _ (rw3_lt _ _) _ hj.2.1]
    refine q_tell M.2.2.1 hr W.2.1 D (y := clr (sel r w0 w1 j) (3 * a + b)) (fun p' hp' => rw3_clr _ (W.2.2.2.2.2.1 j).1 _ hj.1 _ hj.2.1 _ hp') (fun pu' go' cl' A' => ?_)
    have W' := WfR_clr W D
    have es : sel r (sel r (updN w0 j (clr (sel r w0 w1 j) (3 * a + b))) w0) (sel r w1 (updN w1 j (clr (sel r w0 w1 j) (3 * a + b)))) = updN (sel r w0 w1) j (clr (sel r w0 w1 j) (3 * a + b)) := by
      rcases (show r = 0 ∨ r = 1 by omega) with e | e <;> subst e <;> rfl
    refine q_movesOf (t := sel r t0 t1) (n := sel r n0 n1) (m := sel r m0 m1) A' hr (by rw [es]; exact W') ?_
    rw [es]
    exact h1 r a j b hr rfl D ht _ _ _ (MdOk_upd M hr A' W')
end
