section
variable {tb : Nat → Nat} {z n m : Nat}
theorem MvOk_det {i p a c k b p' a' c' k' b' : Nat} (h : MvOk tb z n m i p a c k b) (h' : MvOk tb z n m i p' a' c' k' b') : p = p' ∧ a = a' ∧ c = c' ∧ k = k' ∧ b = b' := by
  obtain ⟨g0, ea, gl, ec, i2, ei2, D⟩ := h
  obtain ⟨g0', ea', gl', ec', i2', ei2', D'⟩ := h'
  have e1 : a = a' := by rw [ea, ea']
  have e2 : c = c' := by rw [ec, ec']
  have e3 : i2 = i2' := by rw [ei2, ei2']
  subst e1; subst e2; subst e3
  rcases D with ⟨c4, g2, i3, ei3, g3, eb, i4, ei4, E⟩ | ⟨c4, g2, i3, ei3, F, i4, ei4, g4, i5, ei5, g5, eb, ep⟩ <;> rcases D' with ⟨c4', g2', i3', ei3', g3', eb', i4', ei4', E'⟩ | ⟨c4', g2', i3', ei3', F', i4', ei4', g4', i5', ei5', g5', eb', ep'⟩
  · have e4 : i3 = i3' := by rw [ei3, ei3']
    subst e4
    have e5 : i4 = i4' := by rw [ei4, ei4']
    subst e5
    rcases E with ⟨c2, ek, ep⟩ | ⟨c2, g4, i5, ei5, g5, ek, ep⟩ <;> rcases E' with ⟨c2', ek', ep'⟩ | ⟨c2', g4', i5', ei5', g5', ek', ep'⟩
    · exact ⟨by rw [ep, ep'], rfl, rfl, by rw [ek, ek'], by rw [eb, eb']⟩
    · omega
    · omega
    · have e6 : i5 = i5' := by rw [ei5, ei5']
      subst e6
      exact ⟨by rw [ep, ep'], rfl, rfl, by rw [ek, ek'], by rw [eb, eb']⟩
  · omega
  · omega
  · have e4 : i3 = i3' := by rw [ei3, ei3']
    subst e4
    have e5 : i4 = i4' := by rw [ei4, ei4']
    subst e5
    have e6 : i5 = i5' := by rw [ei5, ei5']
    subst e6
    rcases F with ⟨gn, ek⟩ | ⟨gn, gm, ek⟩ <;> rcases F' with ⟨gn', ek'⟩ | ⟨gn', gm', ek'⟩
    · exact ⟨by rw [ep, ep'], rfl, rfl, by rw [ek, ek'], by rw [eb, eb']⟩
    · exact absurd gn gn'
    · exact absurd gn' gn
    · exact ⟨by rw [ep, ep'], rfl, rfl, by rw [ek, ek'], by rw [eb, eb']⟩
theorem MvOk_bad {i p a c k b s : Nat} (h : MvOk tb z n m i p a c k b) (h' : MvBad tb z n m i s) : False := by
  obtain ⟨g0, ea, gl, ec, i2, ei2, D⟩ := h
  rcases h' with ⟨h1, _⟩ | ⟨_, i1, e1, ⟨h1, _⟩ | ⟨_, c', i2', ec', ei2', T⟩⟩
  · exact h1 g0
  · subst e1; exact h1 gl
  · subst e1
    have e2 : c = c' := by rw [ec, ec']
    have e3 : i2 = i2' := by rw [ei2, ei2']
    subst e2; subst e3
    unfold MvBadT at T
    rcases D with ⟨c4, g2, i3, ei3, g3, eb, i4, ei4, E⟩ | ⟨c4, g2, i3, ei3, F, i4, ei4, g4, i5, ei5, g5, eb, ep⟩ <;> rcases T with ⟨c4', T⟩ | ⟨c4', T⟩
    · rcases T with ⟨h2, _⟩ | ⟨_, i3', ei3', ⟨h3, _⟩ | ⟨_, c2, i4', ei4', T⟩⟩
      · exact h2 g2
      · rw [ei3', ← ei3] at h3; exact h3 g3
      · have e4 : i3 = i3' := by rw [ei3, ei3']
        subst e4
        have e5 : i4 = i4' := by rw [ei4, ei4']
        subst e5
        rcases E with ⟨c2', _⟩ | ⟨_, g4, i5, ei5, g5, _⟩
        · omega
        · rcases T with ⟨h4, _⟩ | ⟨_, i5', ei5', h5, _⟩
          · exact h4 g4
          · rw [ei5', ← ei5] at h5; exact h5 g5
    · omega
    · omega
    · rcases T with ⟨h2, _⟩ | ⟨_, i3', ei3', ⟨h3, h3', _⟩ | ⟨_, i4', ei4', T⟩⟩
      · exact h2 g2
      · rw [ei3', ← ei3] at h3 h3'
        rcases F with ⟨gn, _⟩ | ⟨_, gm, _⟩
        · exact h3 gn
        · exact h3' gm
      · have e4 : i3 = i3' := by rw [ei3, ei3']
        subst e4
        have e5 : i4 = i4' := by rw [ei4, ei4']
        subst e5
        rcases T with ⟨h4, _⟩ | ⟨_, i5', ei5', h5, _⟩
        · exact h4 g4
        · rw [ei5', ← ei5] at h5; exact h5 g5
theorem MvBad_det {i s s' : Nat} (h : MvBad tb z n m i s) (h' : MvBad tb z n m i s') : s = s' := by
  rcases h with ⟨h1, e⟩ | ⟨h1, i1, e1, H⟩ <;> rcases h' with ⟨h1', e'⟩ | ⟨h1', i1', e1', H'⟩
  · rw [e, e']
  · exact absurd h1' h1
  · exact absurd h1 h1'
  · subst e1; subst e1'
    rcases H with ⟨h2, e⟩ | ⟨h2, c, i2, ec, ei2, T⟩ <;> rcases H' with ⟨h2', e'⟩ | ⟨h2', c', i2', ec', ei2', T'⟩
    · rw [e, e']
    · exact absurd h2' h2
    · exact absurd h2 h2'
    · have e2 : c = c' := by rw [ec, ec']
      have e3 : i2 = i2' := by rw [ei2, ei2']
      subst e2; subst e3
      unfold MvBadT at T T'
      rcases T with ⟨c4, T⟩ | ⟨c4, T⟩ <;> rcases T' with ⟨c4', T'⟩ | ⟨c4', T'⟩
      · rcases T with ⟨h3, e⟩ | ⟨h3, i3, ei3, T⟩ <;> rcases T' with ⟨h3', e'⟩ | ⟨h3', i3', ei3', T'⟩
        · rw [e, e']
        · exact absurd h3' h3
        · exact absurd h3 h3'
        · subst ei3; subst ei3'
          rcases T with ⟨h4, e⟩ | ⟨h4, c2, i4, ei4, T⟩ <;> rcases T' with ⟨h4', e'⟩ | ⟨h4', c2', i4', ei4', T'⟩
          · rw [e, e']
          · exact absurd h4' h4
          · exact absurd h4 h4'
          · subst ei4; subst ei4'
            rcases T with ⟨h5, e⟩ | ⟨h5, i5, ei5, h6, e⟩ <;> rcases T' with ⟨h5', e'⟩ | ⟨h5', i5', ei5', h6', e'⟩
            · rw [e, e']
            · exact absurd h5' h5
            · exact absurd h5 h5'
            · rw [e, e', ei5, ei5']
      · omega
      · omega
      · rcases T with ⟨h3, e⟩ | ⟨h3, i3, ei3, T⟩ <;> rcases T' with ⟨h3', e'⟩ | ⟨h3', i3', ei3', T'⟩
        · rw [e, e']
        · exact absurd h3' h3
        · exact absurd h3 h3'
        · subst ei3; subst ei3'
          rcases T with ⟨h4, h4b, e⟩ | ⟨h4, i4, ei4, T⟩ <;> rcases T' with ⟨h4', h4b', e'⟩ | ⟨h4', i4', ei4', T'⟩
          · rw [e, e']
          · rcases h4' with h | h
            · exact absurd h h4
            · exact absurd h h4b
          · rcases h4 with h | h
            · exact absurd h h4'
            · exact absurd h h4b'
          · subst ei4; subst ei4'
            rcases T with ⟨h5, e⟩ | ⟨h5, i5, ei5, h6, e⟩ <;> rcases T' with ⟨h5', e'⟩ | ⟨h5', i5', ei5', h6', e'⟩
            · rw [e, e']
            · exact absurd h5' h5
            · exact absurd h5 h5'
            · rw [e, e', ei5, ei5']
/-- the fault of a text of at most k moves more, read from i on -/
def FB (tb : Nat → Nat) (z n m : Nat) : Nat → Nat → Nat → Prop
  | 0, _, _ => False
  | k + 1, i, s => MvBad tb z n m i s ∨ ∃ p a c kk b, MvOk tb z n m i p a c kk b ∧ tkS tb z p < z ∧ ((tb (tkS tb z p) ≠ 59 ∧ s = tkS tb z p) ∨ (tb (tkS tb z p) = 59 ∧ ((k = 0 ∧ s = tkS tb z p) ∨ (k ≠ 0 ∧ FB tb z n m k (tkE tb z p) s))))
/-- the moves of a text without a fault: from a by slot j to b -/
def FO (tb : Nat → Nat) (z n m : Nat) : Nat → Nat → List (Nat × Nat × Nat) → Prop
  | 0, _, _ => False
  | k + 1, i, L => ∃ p a c kk b, MvOk tb z n m i p a c kk b ∧ ((z ≤ tkS tb z p ∧ L = [(a, 3 * c + kk, b)]) ∨ (tkS tb z p < z ∧ tb (tkS tb z p) = 59 ∧ k ≠ 0 ∧ ∃ L', FO tb z n m k (tkE tb z p) L' ∧ L = (a, 3 * c + kk, b) :: L'))
theorem FB_det : ∀ k i s s', FB tb z n m k i s → FB tb z n m k i s' → s = s'
  | 0, _, _, _, h, _ => h.elim
  | k + 1, i, s, s', h, h' => by
    rcases h with h | ⟨p, a, c, kk, b, h1, h2, h3⟩ <;> rcases h' with h' | ⟨p', a', c', kk', b', h1', h2', h3'⟩
    · exact MvBad_det h h'
    · exact (MvOk_bad h1' h).elim
    · exact (MvOk_bad h1 h').elim
    · have e := (MvOk_det h1 h1').1
      subst e
      rcases h3 with ⟨g, e⟩ | ⟨g, h3⟩ <;> rcases h3' with ⟨g', e'⟩ | ⟨g', h3'⟩
      · rw [e, e']
      · exact absurd g' g
      · exact absurd g g'
      · rcases h3 with ⟨g, e⟩ | ⟨g, h3⟩ <;> rcases h3' with ⟨g', e'⟩ | ⟨g', h3'⟩
        · rw [e, e']
        · exact absurd g g'
        · exact absurd g' g
        · exact FB_det k _ _ _ h3 h3'
theorem FO_det : ∀ k i L L', FO tb z n m k i L → FO tb z n m k i L' → L = L'
  | 0, _, _, _, h, _ => h.elim
  | k + 1, i, L, L', ⟨p, a, c, kk, b, h1, h3⟩, ⟨p', a', c', kk', b', h1', h3'⟩ => by
    obtain ⟨e1, e2, e3, e4, e5⟩ := MvOk_det h1 h1'
    subst e1; subst e2; subst e3; subst e4; subst e5
    rcases h3 with ⟨g, e⟩ | ⟨g, _, _, M, hM, e⟩ <;> rcases h3' with ⟨g', e'⟩ | ⟨g', _, _, M', hM', e'⟩
    · rw [e, e']
    · omega
    · omega
    · rw [e, e', FO_det k _ _ _ hM hM']
theorem FB_FO : ∀ k i s L, FB tb z n m k i s → FO tb z n m k i L → False
  | 0, _, _, _, h, _ => h
  | k + 1, i, s, L, h, ⟨p', a', c', kk', b', h1', h3'⟩ => by
    rcases h with h | ⟨p, a, c, kk, b, h1, h2, h3⟩
    · exact MvOk_bad h1' h
    · have e := (MvOk_det h1 h1').1
      subst e
      rcases h3' with ⟨g', _⟩ | ⟨g', g2, g3, M', hM', _⟩
      · omega
      · rcases h3 with ⟨g, _⟩ | ⟨g, h3⟩
        · exact g g2
        · rcases h3 with ⟨g, e⟩ | ⟨g, h3⟩
          · exact g3 g
          · exact FB_FO k _ _ _ h3 hM'
end
