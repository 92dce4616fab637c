theorem m_L70 {r : Nat} (hr : r < 2) {E : Int32 → (Nat → Int32) → Prop} {pu : Nat → Int32} (h : ∀ pu' : Nat → Int32, (∀ j, 12 * r ≤ j → j < 12 * r + 12 → pu' j = nI 0) → (∀ j, (j < 12 * r ∨ 12 * r + 12 ≤ j) → pu' j = pu j) → E (nI 12) pu') : wX12_reader_L70 (nI r) E (nI 0) pu := by
  unfold wX12_reader_L70
  intro P hP
  refine q_cnt0 (Q := fun i => ∀ v : Nat → Int32, (∀ j, 12 * r ≤ j → j < 12 * r + i → v j = nI 0) → (∀ j, (j < 12 * r ∨ 12 * r + 12 ≤ j) → v j = pu j) → P (nI i) v) 12 ?_ ?_ pu (fun j h1 h2 => absurd h1 (by omega)) (fun _ _ => rfl)
  · intro v h1 h2
    exact hP _ _ ⟨fun _ => h v h1 h2, fun g => absurd (Int32.le_refl _) g⟩
  · intro i hi ih v h1 h2
    refine hP _ _ ⟨fun g => absurd ((q_le (a := 12) (b := i) (by omega) (by omega)).1 g) (by omega), fun _ => ?_⟩
    rw [show (12 : Int32) = nI 12 from rfl, pk_mul, nI_add, q_in (by omega), q_cl (by omega)]
    refine ⟨by omega, ?_⟩
    rintro _ rfl _ rfl
    rw [show (1 : Int32) = nI 1 from rfl, nI_add]
    refine ih _ (fun j g1 g2 => ?_) (fun j g => ?_)
    · by_cases e : j = 12 * r + i
      · subst e; rw [q_us]; rfl
      · rw [q_un e]; exact h1 j g1 (by omega)
    · rw [q_un (by omega)]; exact h2 j g
theorem m_L99 {r : Nat} (hr : r < 2) {E : Int32 → (Nat → Int32) → Prop} {pu : Nat → Int32} (h : ∀ pu' : Nat → Int32, (∀ j, 6 * r ≤ j → j < 6 * r + 6 → pu' j = nI 0) → (∀ j, (j < 6 * r ∨ 6 * r + 6 ≤ j) → pu' j = pu j) → E (nI 6) pu') : wX12_reader_L99 (nI r) E (nI 0) pu := by
  unfold wX12_reader_L99
  intro P hP
  refine q_cnt0 (Q := fun i => ∀ v : Nat → Int32, (∀ j, 6 * r ≤ j → j < 6 * r + i → v j = nI 0) → (∀ j, (j < 6 * r ∨ 6 * r + 6 ≤ j) → v j = pu j) → P (nI i) v) 6 ?_ ?_ pu (fun j h1 h2 => absurd h1 (by omega)) (fun _ _ => rfl)
  · intro v h1 h2
    exact hP _ _ ⟨fun _ => h v h1 h2, fun g => absurd (Int32.le_refl _) g⟩
  · intro i hi ih v h1 h2
    refine hP _ _ ⟨fun g => absurd ((q_le (a := 6) (b := i) (by omega) (by omega)).1 g) (by omega), fun _ => ?_⟩
    rw [show (6 : Int32) = nI 6 from rfl, pk_mul, nI_add, q_in (by omega), q_cl (by omega)]
    refine ⟨by omega, ?_⟩
    rintro _ rfl _ rfl
    rw [show (1 : Int32) = nI 1 from rfl, nI_add]
    refine ih _ (fun j g1 g2 => ?_) (fun j g => ?_)
    · by_cases e : j = 6 * r + i
      · subst e; rw [q_us]; rfl
      · rw [q_un e]; exact h1 j g1 (by omega)
    · rw [q_un (by omega)]; exact h2 j g
theorem m_L128 {r : Nat} (hr : r < 2) {E : Int32 → (Nat → Int32) → Prop} {pu : Nat → Int32} (h : ∀ pu' : Nat → Int32, (∀ j, 18 * r ≤ j → j < 18 * r + 18 → pu' j = nI 0) → (∀ j, (j < 18 * r ∨ 18 * r + 18 ≤ j) → pu' j = pu j) → E (nI 18) pu') : wX12_reader_L128 (nI r) E (nI 0) pu := by
  unfold wX12_reader_L128
  intro P hP
  refine q_cnt0 (Q := fun i => ∀ v : Nat → Int32, (∀ j, 18 * r ≤ j → j < 18 * r + i → v j = nI 0) → (∀ j, (j < 18 * r ∨ 18 * r + 18 ≤ j) → v j = pu j) → P (nI i) v) 18 ?_ ?_ pu (fun j h1 h2 => absurd h1 (by omega)) (fun _ _ => rfl)
  · intro v h1 h2
    exact hP _ _ ⟨fun _ => h v h1 h2, fun g => absurd (Int32.le_refl _) g⟩
  · intro i hi ih v h1 h2
    refine hP _ _ ⟨fun g => absurd ((q_le (a := 18) (b := i) (by omega) (by omega)).1 g) (by omega), fun _ => ?_⟩
    rw [show (18 : Int32) = nI 18 from rfl, pk_mul, nI_add, q_in (by omega), q_cl (by omega)]
    refine ⟨by omega, ?_⟩
    rintro _ rfl _ rfl
    rw [show (1 : Int32) = nI 1 from rfl, nI_add]
    refine ih _ (fun j g1 g2 => ?_) (fun j g => ?_)
    · by_cases e : j = 18 * r + i
      · subst e; rw [q_us]; rfl
      · rw [q_un e]; exact h1 j g1 (by omega)
    · rw [q_un (by omega)]; exact h2 j g
theorem rw3_00 : ∀ p, p < 3 → rw3 0 p = 0 := by decide
theorem MA_zero {w0 w1 : Nat → Nat} {pu go cl pu' go' cl' : Nat → Int32} (A : MA w0 w1 pu go cl) {r : Nat} (hr : r < 2)
    (p1 : ∀ j, 12 * r ≤ j → j < 12 * r + 12 → pu' j = nI 0) (p2 : ∀ j, (j < 12 * r ∨ 12 * r + 12 ≤ j) → pu' j = pu j)
    (g1 : ∀ j, 6 * r ≤ j → j < 6 * r + 6 → go' j = nI 0) (g2 : ∀ j, (j < 6 * r ∨ 6 * r + 6 ≤ j) → go' j = go j)
    (c1 : ∀ j, 18 * r ≤ j → j < 18 * r + 18 → cl' j = nI 0) (c2 : ∀ j, (j < 18 * r ∨ 18 * r + 18 ≤ j) → cl' j = cl j) :
    MA (sel r (fun _ => 0) w0) (sel r w1 (fun _ => 0)) pu' go' cl' := by
  obtain ⟨A1, A2, A3⟩ := A
  have e0 : ∀ r' k, r' < 2 → r' = r → sel r' (sel r (fun _ => 0) w0) (sel r w1 (fun _ => 0)) k = 0 := fun r' k h' e => by
    subst e
    rcases (show r' = 0 ∨ r' = 1 by omega) with e | e <;> subst e <;> rfl
  have e1 : ∀ r' k, r' < 2 → r' ≠ r → sel r' (sel r (fun _ => 0) w0) (sel r w1 (fun _ => 0)) k = sel r' w0 w1 k := fun r' k h' e => by
    rcases (show r' = 0 ∨ r' = 1 by omega) with e' | e' <;> subst e' <;> rcases (show r = 0 ∨ r = 1 by omega) with e'' | e'' <;> subst e'' <;> first | rfl | exact absurd rfl e
  refine ⟨fun r' l p m hr' hl hp hm => ?_, fun r' l p hr' hl hp => ?_, fun r' l p k hr' hl hp hk => ?_⟩
  · by_cases e : r' = r
    · rw [e0 _ _ hr' e, rw3_00 p hp]; exact p1 _ (by omega) (by omega)
    · rw [e1 _ _ hr' e, ← A1 r' l p m hr' hl hp hm]; exact p2 _ (by omega)
  · by_cases e : r' = r
    · rw [e0 _ _ hr' e, rw3_00 p hp]; exact g1 _ (by omega) (by omega)
    · rw [e1 _ _ hr' e, ← A2 r' l p hr' hl hp]; exact g2 _ (by omega)
  · by_cases e : r' = r
    · rw [e0 _ _ hr' e, rw3_00 p hp]; exact c1 _ (by omega) (by omega)
    · rw [e1 _ _ hr' e, ← A3 r' l p k hr' hl hp hk]; exact c2 _ (by omega)
theorem m_reader {n0 m0 t0 n1 m1 t1 : Nat} {w0 w1 : Nat → Nat} {st mk tk pu go cl : Nat → Int32} (M : MdOk n0 m0 t0 w0 n1 m1 t1 w1 st mk tk pu go cl) {x a b c kn : Int32} {K : Int32 → Int32 → (Nat → Int32) → (Nat → Int32) → (Nat → Int32) → (Nat → Int32) → (Nat → Int32) → (Nat → Int32) → Prop}
    (h1 : ∀ r n m t, r < 2 → x = nI r → RdA a b c n m t → ∀ st' mk' tk' pu' go' cl', MdOk (sel r n n0) (sel r m m0) (sel r t t0) (sel r (fun _ => 0) w0) (sel r n1 n) (sel r m1 m) (sel r t1 t) (sel r w1 (fun _ => 0)) st' mk' tk' pu' go' cl' → K (nI 1) (-nI 1) st' mk' tk' pu' go' cl')
    (h3 : ∀ r, r < 2 → x = nI r → (∀ n m t, ¬ RdA a b c n m t) → K (-nI 3) kn st mk tk pu go cl)
    (h2 : (∀ r, r < 2 → x ≠ nI r) → K (-nI 2) kn st mk tk pu go cl) :
    wX12_reader x a b c kn st mk tk pu go cl K := by
  unfold wX12_reader
  refine q_isR (fun r hr er => ⟨fun g => absurd g (by decide), fun _ => ?_⟩) (fun g => ⟨fun _ => h2 g, fun g => absurd rfl g⟩)
  subst er
  have h3' := h3 r hr rfl
  have bet : ∀ {y : Int32} {lo hi : Nat} {K : Int32 → Prop}, hi < 2147483647 → lo ≤ hi + 1 → (∀ n, lo ≤ n → n ≤ hi → y = nI n → K (nI 1)) → ((∀ n, lo ≤ n → n ≤ hi → y ≠ nI n) → K (nI 0)) → wX12_in y (nI lo) (nI hi) K := fun {y lo hi K} hh hl k1 k0 => by
    refine q_in3 (fun g1 g2 => ?_) (fun g => k0 (fun n n1 n2 e => ?_))
    · rcases q_between (x := y) hh hl with g | g | ⟨n, a1, a2, e⟩
      · exact absurd g g1
      · exact absurd g g2
      · exact k1 n a1 a2 e
    · subst e
      rcases g with g | g
      · exact q_notlt n1 (by omega) g
      · exact q_notlt n2 (by omega) g
  refine bet (lo := 1) (hi := 3) (by omega) (by omega) (fun n hn1 hn3 ea => ⟨fun g => absurd g (by decide), fun _ => ?_⟩) (fun g => ⟨fun _ => h3' (fun n m t h => g n h.2.2.2.1 h.2.2.2.2.1 h.1), fun g => absurd rfl g⟩)
  subst ea
  refine bet (lo := 1) (hi := 2) (by omega) (by omega) (fun m hm1 hm2 eb => ⟨fun g => absurd g (by decide), fun _ => ?_⟩) (fun g => ⟨fun _ => h3' (fun n m t h => g m h.2.2.2.2.2.1 h.2.2.2.2.2.2.1 h.2.1), fun g => absurd rfl g⟩)
  subst eb
  have hp : 2 ^ n ≤ 2 ^ 3 := Nat.pow_le_pow_right (by omega) hn3
  have hp0 : 0 < 2 ^ n := Nat.pow_pos (by omega)
  have hp8 : 2 ^ n ≤ 8 := hp
  rw [q_p2n n (by omega)]
  refine q_inN (by omega) (by omega) (fun t ht ec => ⟨fun g => absurd g (by decide), fun _ => ?_⟩) (fun g => ⟨fun _ => h3' (fun n' m t h => ?_), fun g => absurd rfl g⟩)
  · subst ec
    have hA : RdA (nI n) (nI m) (nI t) n m t := ⟨rfl, rfl, rfl, hn1, hn3, hm1, hm2, ht⟩
    rw [q_in (by omega), q_cl (by omega)]
    refine ⟨hr, ?_⟩
    rintro _ rfl
    refine ⟨hr, ?_⟩
    rintro _ rfl
    refine ⟨hr, ?_⟩
    rintro _ rfl
    refine m_L70 hr (fun pu' p1 p2 => m_L99 hr (fun go' g1 g2 => m_L128 hr (fun cl' c1 c2 => h1 r n m t hr rfl hA _ _ _ _ _ _ ?_)))
    obtain ⟨W0, W1, A, s0, s1, k0, k1, a0, a1⟩ := M
    have A' := MA_zero A hr p1 p2 g1 g2 c1 c2
    rcases (show r = 0 ∨ r = 1 by omega) with e | e <;> subst e
    · exact ⟨RdA_wf hA, W1, A', q_us, (q_un (by omega)).trans s1, q_us, (q_un (by omega)).trans k1, q_us, (q_un (by omega)).trans a1⟩
    · exact ⟨W0, RdA_wf hA, A', (q_un (by omega)).trans s0, q_us, (q_un (by omega)).trans k0, q_us, (q_un (by omega)).trans a0, q_us⟩
  · obtain ⟨e1, _, e, _, hn', _, _, ht⟩ := h
    rw [q_eq (by omega) (by omega)] at e1
    subst e1
    exact g t ht e
