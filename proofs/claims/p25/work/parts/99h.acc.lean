/-- what is added to what stands modulo -/
def Acc (N : Nat) (D : Nat → Nat) (A A' : Nat → Int64) : Prop := ∀ q x, q < N → A q = lN (x % 1000000007) → A' q = lN ((x + D q) % 1000000007)
theorem Acc_r (N : Nat) (A : Nat → Int64) : Acc N (fun _ => 0) A A := fun _ _ _ h => h
theorem Acc_t {N : Nat} {D E : Nat → Nat} {A B C : Nat → Int64} (h : Acc N D A B) (h' : Acc N E B C) : Acc N (fun q => D q + E q) A C := fun q x hq e => by
  have := h' q _ hq (h q x hq e)
  rw [Nat.add_assoc] at this
  exact this
theorem Acc_m {N : Nat} {D E : Nat → Nat} {A A' : Nat → Int64} (h : Acc N D A A') (e : ∀ q, q < N → D q % 1000000007 = E q % 1000000007) : Acc N E A A' := fun q x hq e1 => by
  rw [h q x hq e1]
  have := e q hq
  congr 1
  omega
theorem Acc_e {N : Nat} {D E : Nat → Nat} {A A' : Nat → Int64} (h : Acc N D A A') (e : ∀ q, q < N → D q = E q) : Acc N E A A' := Acc_m h (fun q hq => by rw [e q hq])
theorem Acc_0 {N : Nat} {D : Nat → Nat} {A A' : Nat → Int64} (h : Acc N D A A') {q x : Nat} (hq : q < N) (e : D q = 0) (hx : A q = lN (x % 1000000007)) : A' q = lN (x % 1000000007) := by
  have := h q x hq hx
  rw [e, Nat.add_zero] at this
  exact this
/-- one more added in a sum -/
theorem Acc_sum {N n : Nat} {F : Nat → Nat → Nat} {A B C : Nat → Int64} (h : Acc N (fun q => sumN (fun i => F i q) n) A B) (h' : Acc N (F n) B C) : Acc N (fun q => sumN (fun i => F i q) (n + 1)) A C := Acc_t h h'
theorem Acc_sum0 {N : Nat} {F : Nat → Nat → Nat} (A : Nat → Int64) : Acc N (fun q => sumN (fun i => F i q) 0) A A := Acc_r N A
theorem lN_addL (a b : Nat) : lN a + lN b = lN (a + b) := by
  apply Int64.toBitVec_inj.1
  apply BitVec.eq_of_toNat_eq
  simp [lN, Int64.toBitVec_add, Int64.toBitVec_ofNat, Int64.toBitVec_ofNat']
theorem res_mul {a b : Nat} : a % 1000000007 * (b % 1000000007) < 4611686018427387904 := by
  have h1 : a % 1000000007 ≤ 1000000006 := by omega
  have h2 : b % 1000000007 ≤ 1000000006 := by omega
  have := Nat.mul_le_mul h1 h2
  omega
theorem q_addP {N i m M : Nat} (hN : N < 2147483648) (hi : i < N) (hm : m < 4611686018427387904) (e : m % 1000000007 = M % 1000000007) {A : Nat → Int64} {K : (Nat → Int64) → Prop} (h : ∀ A', Acc N (fun q => ind (q = i) * M) A A' → K A') : wX0_add (nI i) (lN m) A N K := by
  unfold wX0_add
  refine ⟨fun g => absurd g (nI_pos (by omega)), fun _ => ⟨fun g => absurd ((q_le (by omega) (by omega)).1 g) (by omega), fun _ => ?_⟩⟩
  rw [q_in (by omega), q_cl (by omega)]
  refine ⟨hi, fun x3 e3 => ⟨hi, fun g4 e4 => h _ (fun q x hq hx => ?_)⟩⟩
  show g4 q = lN ((x + ind (q = i) * M) % 1000000007)
  rw [e4, q_apL]
  by_cases g : q = i
  · subst g
    rw [if_pos rfl, ind_t rfl, Nat.one_mul, e3, hx, lN_addL, q_modL (by omega)]
    congr 1
    omega
  · rw [if_neg g, ind_f g, Nat.zero_mul, Nat.add_zero]; exact hx
/-- a line cleared -/
def ClrA (w n : Nat) (A A' : Nat → Int64) : Prop := (∀ j, j < w → A' (n * w + j) = lN 0) ∧ ∀ q, (∀ j, j < w → q ≠ n * w + j) → A' q = A q
theorem ClrA_at {w n l j : Nat} {A A' : Nat → Int64} (h : ClrA w n A A') (hw : 0 < w) (hj : j < w) (hl : l ≠ n) : A' (l * w + j) = A (l * w + j) := h.2 _ (fun k hk e => hl (by
  have e1 : (l * w + j) / w = (n * w + k) / w := by rw [e]
  rw [Nat.mul_comm l w, Nat.mul_comm n w, Nat.mul_add_div hw, Nat.mul_add_div hw, Nat.div_eq_of_lt hj, Nat.div_eq_of_lt hk] at e1
  omega))
theorem q_clear {n : Nat} (hn : n < 13) {wh sp gr ab : Nat → Int64} {K : (Nat → Int64) → (Nat → Int64) → (Nat → Int64) → (Nat → Int64) → Prop} (h : ∀ wh' sp' gr' ab', ClrA 60 n wh wh' → ClrA 60 n sp sp' → ClrA 8 n gr gr' → ClrA 8 n ab ab' → K wh' sp' gr' ab') : wX0_clearLine (nI n) (nI 8) wh sp gr ab 8 K := by
  unfold wX0_clearLine wX0_clearLine_L2
  intro P hP
  have up : ∀ {w k : Nat} {A B C : Nat → Int64}, k < w → ((∀ j, j < k → B (n * w + j) = lN 0) ∧ ∀ q, (∀ j, j < w → q ≠ n * w + j) → B q = A q) → C = vp_updL B (n * w + k) (0 : Int64) → ((∀ j, j < k + 1 → C (n * w + j) = lN 0) ∧ ∀ q, (∀ j, j < w → q ≠ n * w + j) → C q = A q) := fun {w k A B C} hk h e => by
    subst e
    refine ⟨fun j hj => ?_, fun q hq => ?_⟩
    · rw [q_apL]
      by_cases g : j = k
      · rw [if_pos (by rw [g])]; rfl
      · rw [if_neg (by omega)]; exact h.1 j (by omega)
    · rw [q_apL, if_neg (hq k hk)]; exact h.2 q hq
  refine q_cnt0 (Q := fun k => ∀ wh' sp', ((∀ j, j < k → wh' (n * 60 + j) = lN 0) ∧ ∀ q, (∀ j, j < 60 → q ≠ n * 60 + j) → wh' q = wh q) → ((∀ j, j < k → sp' (n * 60 + j) = lN 0) ∧ ∀ q, (∀ j, j < 60 → q ≠ n * 60 + j) → sp' q = sp q) → P (nI k) wh' sp') 60 ?_ ?_ wh sp ⟨fun j hj => by omega, fun _ _ => rfl⟩ ⟨fun j hj => by omega, fun _ _ => rfl⟩
  · intro wh' sp' h1 h2
    refine hP _ _ _ ⟨fun _ => ?_, fun g => absurd ((q_le (by omega) (by omega)).2 (Nat.le_refl 60)) g⟩
    unfold wX0_clearLine_L40
    intro R hR
    refine q_cnt0 (Q := fun k => ∀ gr' ab', ((∀ j, j < k → gr' (n * 8 + j) = lN 0) ∧ ∀ q, (∀ j, j < 8 → q ≠ n * 8 + j) → gr' q = gr q) → ((∀ j, j < k → ab' (n * 8 + j) = lN 0) ∧ ∀ q, (∀ j, j < 8 → q ≠ n * 8 + j) → ab' q = ab q) → R (nI k) gr' ab') 8 ?_ ?_ gr ab ⟨fun j hj => by omega, fun _ _ => rfl⟩ ⟨fun j hj => by omega, fun _ _ => rfl⟩
    · intro gr' ab' h3 h4
      exact hR _ _ _ ⟨fun _ => h _ _ _ _ h1 h2 h3 h4, fun g => absurd ((q_le (by omega) (by omega)).2 (Nat.le_refl 8)) g⟩
    · intro k hk ih gr' ab' h3 h4
      refine hR _ _ _ ⟨fun g => absurd ((q_le (by omega) (by omega)).1 g) (by omega), fun _ => ?_⟩
      rw [pk_mul, nI_add, q_in (by omega), q_cl (by omega)]
      refine ⟨by omega, fun g3 e3 => ⟨by omega, fun g4 e4 x5 e5 => ?_⟩⟩
      rw [e5, nI_1]
      exact ih _ _ (up hk h3 e3) (up hk h4 e4)
  · intro k hk ih wh' sp' h1 h2
    refine hP _ _ _ ⟨fun g => absurd ((q_le (a := 60) (by omega) (by omega)).1 g) (by omega), fun _ => ?_⟩
    rw [show (60 : Int32) = nI 60 from rfl, pk_mul, nI_add, q_in (by omega), q_cl (by omega)]
    refine ⟨by omega, fun g3 e3 => ⟨by omega, fun g4 e4 x5 e5 => ?_⟩⟩
    rw [e5, nI_1]
    exact ih _ _ (up hk h1 e3) (up hk h2 e4)
/-- the place in a line of what has this value -/
noncomputable def whQ (sz : Nat) (pr : Nat → Nat) (n v q : Nat) : Nat := ind (∃ k, k < sz ∧ q = n * 60 + k ∧ pr k = v)
theorem whQ_at {sz : Nat} {pr : Nat → Nat} (hi : ∀ i j, i < sz → j < sz → pr i = pr j → i = j) (z60 : sz ≤ 60) {n v k : Nat} (hk : k < sz) : whQ sz pr n v (n * 60 + k) = ind (v = pr k) := by
  unfold whQ
  refine ind_congr ⟨fun ⟨j, hj, e, ev⟩ => ?_, fun e => ⟨k, hk, rfl, e.symm⟩⟩
  rw [show k = j from by omega, ev]
theorem whQ_off {sz : Nat} {pr : Nat → Nat} (z60 : sz ≤ 60) {n v l k : Nat} (hk : k < 60) (hl : l ≠ n) : whQ sz pr n v (l * 60 + k) = 0 := by
  unfold whQ
  refine ind_f (fun ⟨j, hj, e, ev⟩ => hl ?_)
  omega
theorem whQ_eq {sz : Nat} {pr : Nat → Nat} (hi : ∀ i j, i < sz → j < sz → pr i = pr j → i = j) {n v k : Nat} (hk : k < sz) (e : pr k = v) (q : Nat) : ind (q = n * 60 + k) = whQ sz pr n v q := by
  unfold whQ
  refine ind_congr ⟨fun g => ⟨k, hk, g, e⟩, fun ⟨j, hj, g, ev⟩ => ?_⟩
  rw [g, hi j k hj hk (by rw [ev, e])]
