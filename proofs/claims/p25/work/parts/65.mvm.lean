theorem q_shb : ∀ b, b < 3 → (1 : Int32) <<< (nI b &&& 31) = nI (2 ^ b) := by decide +kernel
section
variable {n m t : Nat}
theorem m_movesL {r : Nat} (hr : r < 2) {rd : Nat → Int32} {E : Int32 → Int32 → (Nat → Int32) → (Nat → Int32) → (Nat → Int32) → Prop} : ∀ (L M : List (Nat × Nat × Nat)) (w0 w1 : Nat → Nat) (pu go cl : Nat → Int32) (kn : Int32), M.length + L.length ≤ 16 → RdL n m rd (M ++ L) → MA w0 w1 pu go cl → WfR n m t (sel r w0 w1) →
    (∀ pu' go' cl' kn', (L = [] → kn' = kn) → (L ≠ [] → kn' = -nI 1) → MA (sel r (apW w0 L) w0) (sel r w1 (apW w1 L)) pu' go' cl' → WfR n m t (apW (sel r w0 w1) L) → E (nI (M.length + L.length)) kn' pu' go' cl') →
    wX12_moves_L23 (nI r) (nI (M.length + L.length)) rd E (nI M.length) kn pu go cl := by
  intro L
  unfold wX12_moves_L23
  induction L with
  | nil =>
    intro M w0 w1 pu go cl kn hL hR A W h P hP
    refine hP _ _ _ _ _ ?_
    rw [List.length_nil, Nat.add_zero] at hL ⊢
    refine ⟨fun _ => ?_, fun g => absurd (Int32.le_refl _) g⟩
    have := h pu go cl kn (fun _ => rfl) (fun g => absurd rfl g)
    rw [List.length_nil, Nat.add_zero] at this
    refine this ?_ W
    rcases (show r = 0 ∨ r = 1 by omega) with e | e <;> subst e <;> exact A
  | cons e L ih =>
    intro M w0 w1 pu go cl kn hL hR A W h P hP
    refine hP _ _ _ _ _ ?_
    obtain ⟨n1, n3, m1, m2, _, hRn, _⟩ := id W
    have D := hR M.length e (by rw [List.getElem?_append_right (Nat.le_refl _), Nat.sub_self]; rfl)
    have hj := Dec_j D n3 m2
    rw [List.length_cons] at hL
    rw [show M.length + (e :: L).length = M.length + 1 + L.length from by rw [List.length_cons]; omega]
    have eb := D.2.2.1
    have hb3 := hj.2.1
    rw [show (4 : Int32) = nI 4 from rfl, show (1 : Int32) = nI 1 from rfl, show (2 : Int32) = nI 2 from rfl, show (3 : Int32) = nI 3 from rfl]
    simp (disch := omega) only [pk_mul, nI_add, q_in, q_cl, forall_eq, q_le]
    refine ⟨fun g => absurd g (by omega), fun _ => ⟨by omega, by omega, by omega, ?_⟩⟩
    refine q_tos A hr n3 D ⟨by omega, ?_⟩
    rw [eb, show (nI 1 <<< (nI e.2.2 &&& (31 : Int32))) = nI (2 ^ e.2.2) from q_shb _ hb3, q_or]
    refine q_tell A hr n3 D (fun p' hp' => rw3_or _ (hRn e.2.1).1 _ hj.1 _ hj.2.1 _ hp') (fun pu' go' cl' A' => ?_)
    have W' := WfR_or W D
    have e1 : sel r (sel r (updN w0 e.2.1 ((sel r w0 w1) e.2.1 ||| 2 ^ (3 * e.1 + e.2.2))) w0) (sel r w1 (updN w1 e.2.1 ((sel r w0 w1) e.2.1 ||| 2 ^ (3 * e.1 + e.2.2)))) = updN (sel r w0 w1) e.2.1 ((sel r w0 w1) e.2.1 ||| 2 ^ (3 * e.1 + e.2.2)) := by
      rcases (show r = 0 ∨ r = 1 by omega) with e | e <;> subst e <;> rfl
    have hM : (M ++ [e]).length = M.length + 1 := by simp
    have := ih (M ++ [e]) _ _ pu' go' cl' (-nI 1) (by rw [hM]; omega) (by rw [List.append_assoc]; exact hR) A' (by rw [e1]; exact W') (fun pu'' go'' cl'' kn' k1 k2 A'' W'' => ?_) P (by rw [show (M ++ [e]).length + L.length = M.length + (e :: L).length from by rw [hM, List.length_cons]; omega]; exact hP)
    · rw [hM] at this
      exact this
    · rw [hM]
      have hl : (e :: L).length = L.length + 1 := rfl
      have hh := h pu'' go'' cl'' kn' (fun g => absurd g (List.cons_ne_nil _ _)) (fun _ => ?_) ?_ ?_
      · rw [hl, show M.length + (L.length + 1) = M.length + 1 + L.length from by omega] at hh
        exact hh
      · cases L with
        | nil => exact k1 rfl
        | cons _ _ => exact k2 (List.cons_ne_nil _ _)
      · rcases (show r = 0 ∨ r = 1 by omega) with e | e <;> subst e <;> exact A''
      · rw [e1] at W''
        exact W''
theorem m_movesL0 {r : Nat} (hr : r < 2) {rd : Nat → Int32} {E : Int32 → Int32 → (Nat → Int32) → (Nat → Int32) → (Nat → Int32) → Prop} {L : List (Nat × Nat × Nat)} {w0 w1 : Nat → Nat} {pu go cl : Nat → Int32} {kn : Int32} (hL : L.length ≤ 16) (hR : RdL n m rd L) (A : MA w0 w1 pu go cl) (W : WfR n m t (sel r w0 w1))
    (h : ∀ pu' go' cl' kn', (L ≠ [] → kn' = -nI 1) → MA (sel r (apW w0 L) w0) (sel r w1 (apW w1 L)) pu' go' cl' → WfR n m t (apW (sel r w0 w1) L) → E (nI L.length) kn' pu' go' cl') :
    wX12_moves_L23 (nI r) (nI L.length) rd E (nI 0) kn pu go cl := by
  have := m_movesL (n := n) (m := m) (t := t) hr (rd := rd) (E := E) L [] w0 w1 pu go cl kn (by simp; omega) hR A W (fun pu' go' cl' kn' _ k2 A' W' => by
    rw [List.length_nil, Nat.zero_add]
    exact h pu' go' cl' kn' k2 A' W')
  rw [List.length_nil, Nat.zero_add] at this
  exact this
end
