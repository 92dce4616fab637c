theorem Dec_det {n m : Nat} {p l k q : Int32} {a j b a' j' b' : Nat} (D : Dec n m p l k q a j b) (D' : Dec n m p l k q a' j' b') (n3 : n ≤ 3 := by omega) (m2 : m ≤ 2 := by omega) : a = a' ∧ j = j' ∧ b = b' := by
  obtain ⟨e1, h1, e2, h2, c, i, e3, h3, h4, e4, e5, _⟩ := D
  obtain ⟨f1, g1, f2, g2, c', i', f3, g3, g4, f4, f5, _⟩ := D'
  rw [e1] at f1; rw [e2] at f2; rw [e3] at f3; rw [e4] at f4
  rw [q_eq (by omega) (by omega)] at f1 f2 f3 f4
  subst f1; subst f2; subst f3; subst f4
  exact ⟨rfl, by omega, rfl⟩
section
variable {n0 m0 t0 n1 m1 t1 : Nat} {w0 w1 : Nat → Nat} {st mk tk pu go cl : Nat → Int32}
theorem c_has (W0 : WfR n0 m0 t0 w0) (W1 : WfR n1 m1 t1 w1) {x p l k q : Int32} {K : Int32 → Prop}
    (h1 : ∀ r a j b, r < 2 → x = nI r → Dec (sel r n0 n1) (sel r m0 m1) p l k q a j b → K (nI (if (sel r w0 w1 j).testBit (3 * a + b) then 1 else 0)))
    (h0 : (∀ r a j b, r < 2 → x = nI r → ¬ Dec (sel r n0 n1) (sel r m0 m1) p l k q a j b) → K (-nI 2)) :
    wX11_has x p l k q (nI n0) (nI m0) (fun j => nI (w0 j)) (nI n1) (nI m1) (fun j => nI (w1 j)) K := by
  unfold wX11_has
  refine c_isR (fun r hr er => ?_) (fun g => ⟨fun _ => h0 (fun r _ _ _ hr e => absurd e (g r hr)), fun g => absurd rfl g⟩)
  subst er
  have inj : ∀ r', r' < 2 → nI r = nI r' → r' = r := fun r' hr' e => by
    rw [q_eq (by omega) (by omega)] at e; exact e.symm
  refine ⟨fun g => absurd g (by decide), fun _ => c_chosen hr (fun e => ?_) (fun e => ?_)⟩
  · subst e
    refine q_knows W0 (fun a j b D => ⟨fun g => absurd g (by decide), fun _ => c_chosen hr (fun _ => q_holds W0 D ?_) (fun e => absurd e (by omega))⟩) (fun g => ⟨fun _ => h0 (fun r' a j b hr' e => by rw [inj r' hr' e]; exact g a j b), fun g => absurd rfl g⟩)
    have := h1 0 a j b (by omega) rfl D
    change K (nI (if (w0 j).testBit (3 * a + b) then 1 else 0)) at this
    split
    · rename_i ht
      rw [if_pos ht] at this
      exact ⟨fun g => absurd g (by decide), fun _ => this⟩
    · rename_i ht
      rw [if_neg ht] at this
      exact ⟨fun _ => this, fun g => absurd rfl g⟩
  · subst e
    refine q_knows W1 (fun a j b D => ⟨fun g => absurd g (by decide), fun _ => c_chosen hr (fun e => absurd e (by omega)) (fun _ => q_holds W1 D ?_)⟩) (fun g => ⟨fun _ => h0 (fun r' a j b hr' e => by rw [inj r' hr' e]; exact g a j b), fun g => absurd rfl g⟩)
    have := h1 1 a j b (by omega) rfl D
    change K (nI (if (w1 j).testBit (3 * a + b) then 1 else 0)) at this
    split
    · rename_i ht
      rw [if_pos ht] at this
      exact ⟨fun g => absurd g (by decide), fun _ => this⟩
    · rename_i ht
      rw [if_neg ht] at this
      exact ⟨fun _ => this, fun g => absurd rfl g⟩
theorem WfR_clr {n m t : Nat} {w : Nat → Nat} (W : WfR n m t w) {p l k q : Int32} {a j b : Nat} (D : Dec n m p l k q a j b) : WfR n m t (updN w j (clr (w j) (3 * a + b))) := by
  obtain ⟨_, n3, _, m2, _, hR, _⟩ := id W
  have hj := Dec_j D n3 m2
  exact WfR_upd W hj.2.2.2.2 (Rn_clr n3 (hR j) hj.2.2.2.1)
theorem c_drop (W0 : WfR n0 m0 t0 w0) (W1 : WfR n1 m1 t1 w1) {x p l k q c0 c1 : Int32} {K : Int32 → Int32 → (Nat → Int32) → Int32 → (Nat → Int32) → Prop}
    (h1 : ∀ r a j b, r < 2 → x = nI r → Dec (sel r n0 n1) (sel r m0 m1) p l k q a j b → (sel r w0 w1 j).testBit (3 * a + b) = true →
      WfR n0 m0 t0 (sel r (updN w0 j (clr (w0 j) (3 * a + b))) w0) → WfR n1 m1 t1 (sel r w1 (updN w1 j (clr (w1 j) (3 * a + b)))) →
      K (nI (sumN (fun i => pc9 (updN (sel r w0 w1) j (clr (sel r w0 w1 j) (3 * a + b)) i)) 18)) (sel r (c0 + 1) c0) (fun i => nI (sel r (updN w0 j (clr (w0 j) (3 * a + b))) w0 i)) (sel r c1 (c1 + 1)) (fun i => nI (sel r w1 (updN w1 j (clr (w1 j) (3 * a + b))) i)))
    (h0 : (∀ r a j b, r < 2 → x = nI r → Dec (sel r n0 n1) (sel r m0 m1) p l k q a j b → (sel r w0 w1 j).testBit (3 * a + b) = false) → K (-nI 2) c0 (fun j => nI (w0 j)) c1 (fun j => nI (w1 j))) :
    wX11_drop x p l k q (nI n0) (nI m0) c0 (fun j => nI (w0 j)) (nI n1) (nI m1) c1 (fun j => nI (w1 j)) K := by
  unfold wX11_drop
  refine c_has W0 W1 (fun r a j b hr er D => ?_) (fun g => ⟨fun e => absurd e (by decide), fun _ => h0 (fun r a j b hr e D => absurd D (g r a j b hr e))⟩)
  subst er
  cases ht : (sel r w0 w1 j).testBit (3 * a + b) with
  | false =>
    refine ⟨fun e => absurd e (by decide), fun _ => h0 (fun r' a' j' b' hr' e D' => ?_)⟩
    have e2 : r' = r := by rw [q_eq (by omega) (by omega)] at e; exact e.symm
    subst e2
    obtain ⟨e1, e2, e3⟩ := Dec_det D D' (by rcases (show r' = 0 ∨ r' = 1 by omega) with e | e <;> subst e; exact W0.2.1; exact W1.2.1) (by rcases (show r' = 0 ∨ r' = 1 by omega) with e | e <;> subst e; exact W0.2.2.2.1; exact W1.2.2.2.1)
    subst e1; subst e2; subst e3
    exact ht
  | true =>
    refine ⟨fun _ => c_chosen hr (fun e => ?_) (fun e => ?_), fun g => absurd rfl g⟩
    · subst e
      have W' := WfR_clr W0 D
      refine q_remove W0 D (c_chosen hr (fun _ => ?_) (fun e => absurd e (by omega)))
      exact q_moveCount (fun j => (W'.2.2.2.2.2.1 j).1) (h1 0 a j b (by omega) rfl D ht W' W1)
    · subst e
      have W' := WfR_clr W1 D
      refine q_remove W1 D (c_chosen hr (fun e => absurd e (by omega)) (fun _ => ?_))
      exact q_moveCount (fun j => (W'.2.2.2.2.2.1 j).1) (h1 1 a j b (by omega) rfl D ht W0 W')
end
