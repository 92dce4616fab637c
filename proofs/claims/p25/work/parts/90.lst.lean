/-- the reference's list: distinct places -/
def LL (y : Sy) (wh n : Nat) (f : Nat → Nat × Nat) (co si : Nat → Int32) : Prop := n ≤ 60 ∧ (∀ i, i < n → co i = nI (ps wh (f i).1) ∧ si i = nI (ph wh (f i).2) ∧ PS y (f i)) ∧ ∀ i j, i < n → j < n → f i = f j → i = j
def inL (n : Nat) (f : Nat → Nat × Nat) (p : Nat × Nat) : Prop := ∃ i, i < n ∧ f i = p
theorem LL_0 (y : Sy) (wh : Nat) (f : Nat → Nat × Nat) (co si : Nat → Int32) : LL y wh 0 f co si := ⟨by omega, fun i hi => by omega, fun i j hi => by omega⟩
theorem LL_60 {y : Sy} {n : Nat} {f : Nat → Nat × Nat} (nb : ¬ Big (PS y)) (h1 : ∀ i, i < n → PS y (f i)) (h2 : ∀ i j, i < n → j < n → f i = f j → i = j) : n ≤ 60 := by
  rcases Nat.lt_or_ge 60 n with g | g
  · exact absurd ⟨f, fun i hi => h1 i (by omega), fun i j hi hj => h2 i j (by omega) (by omega)⟩ nb
  · exact g
theorem PS_b {y : Sy} (hok : SyOk y) {p : Nat × Nat} (h : PS y p) : S2 y p.1 ∧ R2 y p.2 := by
  obtain ⟨d, hn⟩ := h
  exact ⟨NS_S2 hok hn, WS_R2 hok (NS_WS hok hn)⟩
section
variable {wh n0 m0 t0 n1 m1 t1 : Nat} {w0 w1 : Nat → Nat} {st mk tk pu go cl : Nat → Int32} {y : Sy}
theorem m_list (hw : wh < 3) (hy : y = syM wh n0 w0 n1 w1) (hok : SyOk y) (nb : ¬ Big (PS y)) {n : Nat} {f : Nat → Nat × Nat} {co si : Nat → Int32} (L : LL y wh n f co si) {c x : Nat} (hp : PS y (c, x)) {K : Int32 → (Nat → Int32) → (Nat → Int32) → Prop}
    (h : ∀ n' f' co' si', LL y wh n' f' co' si' → n ≤ n' → (∀ i, i < n → f' i = f i) → (∀ p, inL n' f' p ↔ inL n f p ∨ p = (c, x)) → K (nI n') co' si') :
    wX12_list (nI (ps wh c)) (nI (ph wh x)) (nI n) co si K := by
  have n60 := L.1
  have bc : ps wh c < 64 := ps_lt hw hy (PS_b hok hp).1
  have bx : ph wh x < 262144 := ph_lt hw hy (PS_b hok hp).2
  unfold wX12_list wX12_list_L5
  intro P hP
  have key : ∀ i, i ≤ n → ∀ b : Bool, (b = true ↔ ∀ j, j < i → f j ≠ (c, x)) → P (nI (if b then 1 else 0)) (nI i) := by
    refine fun i hi => q_cnt (Q := fun i => ∀ b : Bool, (b = true ↔ ∀ j, j < i → f j ≠ (c, x)) → P (nI (if b then 1 else 0)) (nI i)) (N := n) ?_ ?_ i hi
    · intro b hb
      refine hP _ _ ⟨fun _ => ?_, fun g => absurd ((q_le (by omega) (by omega)).2 (Nat.le_refl n)) g⟩
      cases b with
      | false =>
        refine ⟨fun _ => ?_, fun g => absurd rfl g⟩
        have : ∃ j, j < n ∧ f j = (c, x) := by
          apply Classical.byContradiction
          intro hno
          have := hb.2 (fun j hj e => hno ⟨j, hj, e⟩)
          exact absurd this (by decide)
        obtain ⟨j, hj, e⟩ := this
        refine h n f co si L (Nat.le_refl n) (fun _ _ => rfl) (fun p => ⟨fun hp => .inl hp, fun hp => ?_⟩)
        rcases hp with hp | hp
        · exact hp
        · exact ⟨j, hj, by rw [e, hp]⟩
      | true =>
        refine ⟨fun g => absurd g (by decide), fun _ => ?_⟩
        have hne := hb.1 rfl
        rw [q_in (by omega), q_cl (by omega)]
        have L' : LL y wh (n + 1) (fun i => if i = n then (c, x) else f i) (upd co n (nI (ps wh c))) (upd si n (nI (ph wh x))) := by
          have h1 : ∀ i, i < n + 1 → upd co n (nI (ps wh c)) i = nI (ps wh (if i = n then (c, x) else f i).1) ∧ upd si n (nI (ph wh x)) i = nI (ph wh (if i = n then (c, x) else f i).2) ∧ PS y (if i = n then (c, x) else f i) := fun i hi => by
            by_cases e : i = n
            · subst e; rw [if_pos rfl, q_us, q_us]; exact ⟨rfl, rfl, hp⟩
            · rw [if_neg e, q_un e, q_un e]; exact L.2.1 i (by omega)
          have h2 : ∀ i j, i < n + 1 → j < n + 1 → (if i = n then (c, x) else f i) = (if j = n then (c, x) else f j) → i = j := fun i j hi hj e => by
            by_cases e1 : i = n <;> by_cases e2 : j = n
            · omega
            · rw [if_pos e1, if_neg e2] at e; exact absurd e.symm (hne j (by omega))
            · rw [if_neg e1, if_pos e2] at e; exact absurd e (hne i (by omega))
            · rw [if_neg e1, if_neg e2] at e; exact L.2.2 i j (by omega) (by omega) e
          exact ⟨LL_60 nb (fun i hi => (h1 i hi).2.2) h2, h1, h2⟩
        have n60' := L'.1
        refine ⟨by omega, fun g3 e3 => ⟨by omega, fun g4 e4 x5 e5 => ?_⟩⟩
        rw [e3, e4, e5, nI_1]
        refine h (n + 1) _ _ _ L' (by omega) (fun i hi => if_neg (by omega)) (fun p => ⟨?_, ?_⟩)
        · rintro ⟨i, hi, e⟩
          have e : (if i = n then (c, x) else f i) = p := e
          by_cases e1 : i = n
          · rw [if_pos e1] at e; exact .inr e.symm
          · rw [if_neg e1] at e; exact .inl ⟨i, by omega, e⟩
        · rintro (⟨i, hi, e⟩ | e)
          · exact ⟨i, by omega, by show (if i = n then (c, x) else f i) = p; rw [if_neg (by omega)]; exact e⟩
          · exact ⟨n, by omega, by show (if n = n then (c, x) else f n) = p; rw [if_pos rfl]; exact e.symm⟩
    · intro i hi ih b hb
      refine hP _ _ ⟨fun g => absurd ((q_le (by omega) (by omega)).1 g) (by omega), fun _ => ?_⟩
      have Li := L.2.1 i hi
      have b1 := ps_lt hw hy (PS_b hok Li.2.2).1
      have b2 := ph_lt hw hy (PS_b hok Li.2.2).2
      have nx : ∀ (u : Int32) (b' : Bool), u = nI (if b' then 1 else 0) → (b' = true ↔ (b = true ∧ f i ≠ (c, x))) → ∀ z : Int32, z = nI i + 1 → P u z := fun u b' eu eb z ez => by
        rw [eu, ez, nI_1]
        refine ih b' ?_
        rw [eb, hb]
        constructor
        · rintro ⟨g1, g2⟩ j hj
          by_cases e : j = i
          · rw [e]; exact g2
          · exact g1 j (by omega)
        · intro g
          exact ⟨fun j hj => g j (by omega), g i (by omega)⟩
      cases b with
      | false =>
        refine ⟨fun _ => nx _ false rfl ?_, fun g => absurd rfl g⟩
        simp
      | true =>
        refine ⟨fun g => absurd g (by decide), fun _ => ?_⟩
        rw [q_in (by omega), q_cl (by omega), Li.1, Li.2.1, q_eq (by omega) (by omega), q_eq (by omega) (by omega)]
        refine ⟨by omega, fun g1 => ⟨by omega, fun g2 => nx _ false rfl ?_, fun g2 => nx _ true rfl ?_⟩, fun g1 => nx _ true rfl ?_⟩
        · have : f i = (c, x) := Prod.ext (ps_inj g1) (ph_inj g2)
          simp [this]
        · have : f i ≠ (c, x) := fun e => g2 (by rw [e])
          simp [this]
        · have : f i ≠ (c, x) := fun e => g1 (by rw [e])
          simp [this]
  exact key 0 (by omega) true ⟨fun _ j hj => absurd hj (by omega), fun _ => rfl⟩
/-- one letter more, or several, at one place of the list -/
def LE (n : Nat) (f : Nat → Nat × Nat) (n' : Nat) (f' : Nat → Nat × Nat) : Prop := n ≤ n' ∧ ∀ i, i < n → f' i = f i
theorem LE_r (n : Nat) (f : Nat → Nat × Nat) : LE n f n f := ⟨Nat.le_refl n, fun _ _ => rfl⟩
theorem LE_t {n n' n2 : Nat} {f f' f2 : Nat → Nat × Nat} (h1 : LE n f n' f') (h2 : LE n' f' n2 f2) : LE n f n2 f2 := ⟨Nat.le_trans h1.1 h2.1, fun i hi => by rw [h2.2 i (Nat.lt_of_lt_of_le hi h1.1), h1.2 i hi]⟩
theorem LE_in {n n' : Nat} {f f' : Nat → Nat × Nat} (h : LE n f n' f') {p : Nat × Nat} (hp : inL n f p) : inL n' f' p := by
  obtain ⟨i, hi, e⟩ := hp
  exact ⟨i, Nat.lt_of_lt_of_le hi h.1, by rw [h.2 i hi]; exact e⟩
end
