theorem q_p2n : ∀ n, n < 4 → (1 : Int32) <<< (nI n &&& 31) = nI (2 ^ n) := by decide +kernel
/-- the sizes that a reader may be made with -/
def RdA (a b c : Int32) (n m t : Nat) : Prop := a = nI n ∧ b = nI m ∧ c = nI t ∧ 1 ≤ n ∧ n ≤ 3 ∧ 1 ≤ m ∧ m ≤ 2 ∧ t < 2 ^ n
theorem RdA_wf {a b c : Int32} {n m t : Nat} (h : RdA a b c n m t) : WfR n m t (fun _ => 0) :=
  ⟨h.2.2.2.1, h.2.2.2.2.1, h.2.2.2.2.2.1, h.2.2.2.2.2.2.1, h.2.2.2.2.2.2.2, fun _ => Rn_0 _, fun _ _ => rfl⟩
theorem q_between {x : Int32} {lo hi : Nat} (h : hi < 2147483647) (hl : lo ≤ hi + 1) : (x < nI lo) ∨ (nI hi < x) ∨ ∃ n, lo ≤ n ∧ n ≤ hi ∧ x = nI n := by
  rcases q_out (x := x) (N := hi + 1) (by omega) with (g | g) | ⟨n, hn, e⟩
  · left
    rw [Int32.lt_iff_toInt_lt] at g ⊢
    rw [show ((0 : Int32)).toInt = 0 from by decide] at g
    rw [nI_toInt (by omega)]
    omega
  · right; left
    rw [Int32.le_iff_toInt_le, nI_toInt (by omega)] at g
    rw [Int32.lt_iff_toInt_lt, nI_toInt (by omega)]
    omega
  · subst e
    by_cases g : lo ≤ n
    · exact .inr (.inr ⟨n, g, by omega, rfl⟩)
    · left; rw [q_lt (by omega) (by omega)]; omega
theorem q_notlt {lo n : Nat} (h : lo ≤ n) (hn : n < 2147483648) : ¬ nI n < nI lo := fun g => by
  rw [q_lt (by omega) (by omega)] at g; omega
theorem slot_hi {m j : Nat} (h : 18 ≤ j) : slotOk m j = false := by
  unfold slotOk
  have e : ∀ k, k < 18 → (j == k) = false := fun k hk => by rw [beq_eq_false_iff_ne]; omega
  simp [e]
theorem c_reader {n0 m0 t0 n1 m1 t1 : Nat} {w0 w1 : Nat → Nat} (W0 : WfR n0 m0 t0 w0) (W1 : WfR n1 m1 t1 w1) {x a b c c0 c1 : Int32} {K : Int32 → Int32 → Int32 → Int32 → Int32 → (Nat → Int32) → Int32 → Int32 → Int32 → Int32 → (Nat → Int32) → Prop}
    (h1 : ∀ r n m t, r < 2 → x = nI r → RdA a b c n m t → K (nI 1) (nI (sel r n n0)) (nI (sel r m m0)) (nI (sel r t t0)) (sel r (c0 + 1) c0) (fun j => nI (sel r (fun _ => 0) w0 j)) (nI (sel r n1 n)) (nI (sel r m1 m)) (nI (sel r t1 t)) (sel r c1 (c1 + 1)) (fun j => nI (sel r w1 (fun _ => 0) j)))
    (h3 : ∀ r, r < 2 → x = nI r → (∀ n m t, ¬ RdA a b c n m t) → K (-nI 3) (nI n0) (nI m0) (nI t0) c0 (fun j => nI (w0 j)) (nI n1) (nI m1) (nI t1) c1 (fun j => nI (w1 j)))
    (h2 : (∀ r, r < 2 → x ≠ nI r) → K (-nI 2) (nI n0) (nI m0) (nI t0) c0 (fun j => nI (w0 j)) (nI n1) (nI m1) (nI t1) c1 (fun j => nI (w1 j))) :
    wX11_reader x a b c (nI n0) (nI m0) (nI t0) c0 (fun j => nI (w0 j)) (nI n1) (nI m1) (nI t1) c1 (fun j => nI (w1 j)) K := by
  unfold wX11_reader
  refine c_isR (fun r hr er => ⟨fun g => absurd g (by decide), fun _ => ?_⟩) (fun g => ⟨fun _ => h2 g, fun g => absurd rfl g⟩)
  subst er
  have h3' := h3 r hr rfl
  rcases q_between (x := a) (lo := 1) (hi := 3) (by omega) (by omega) with g | g | ⟨n, hn1, hn3, rfl⟩
  · exact ⟨fun _ => h3' (fun n m t h => by obtain ⟨e, _, _, k1, _⟩ := h; subst e; exact q_notlt k1 (by omega) g), fun g' => absurd g g'⟩
  · have hx : ∀ n m t, ¬ RdA a b c n m t := fun n m t h => by
      obtain ⟨e, _, _, h1, h2, _⟩ := h; subst e; exact q_notlt h2 (by omega) g
    exact ⟨fun _ => h3' hx, fun _ => ⟨fun _ => h3' hx, fun g' => absurd g g'⟩⟩
  refine ⟨fun g => absurd g (q_notlt hn1 (by omega)), fun _ => ⟨fun g => absurd g (q_notlt (n := 3) hn3 (by decide)), fun _ => ?_⟩⟩
  rcases q_between (x := b) (lo := 1) (hi := 2) (by omega) (by omega) with g | g | ⟨m, hm1, hm2, rfl⟩
  · exact ⟨fun _ => h3' (fun n m t h => by obtain ⟨_, e, _, _, _, k1, _⟩ := h; subst e; exact q_notlt k1 (by omega) g), fun g' => absurd g g'⟩
  · have hx : ∀ n' m t, ¬ RdA (nI n) b c n' m t := fun n' m t h => by
      obtain ⟨_, e, _, _, _, _, h2, _⟩ := h; subst e; exact q_notlt h2 (by omega) g
    refine ⟨fun _ => h3' hx, fun _ => ⟨fun g2 => ?_, fun _ => h3' hx⟩⟩
    exfalso
    rw [Int32.le_iff_toInt_le] at g2
    rw [Int32.lt_iff_toInt_lt] at g
    rw [show (nI 2).toInt = 2 from by decide] at g
    rw [show ((2 : Int32)).toInt = 2 from by decide] at g2
    omega
  refine ⟨fun g => absurd g (q_notlt hm1 (by omega)), fun _ => ⟨fun _ => ?_, fun g => absurd ((q_le (by omega) (by omega)).2 hm2) g⟩⟩
  have hp : 2 ^ n ≤ 2 ^ 3 := Nat.pow_le_pow_right (by omega) hn3
  have hp0 : 0 < 2 ^ n := Nat.pow_pos (by omega)
  have hp8 : 2 ^ n ≤ 8 := hp
  rw [q_p2n n (by omega)]
  rcases q_out (x := c) (N := 2 ^ n) (by omega) with (g | g) | ⟨t, ht, rfl⟩
  · exact ⟨fun _ => h3' (fun n m t h => by obtain ⟨_, _, e, h1, hn, _, _, ht⟩ := h; subst e; exact nI_pos (by have : 2 ^ n ≤ 2 ^ 3 := Nat.pow_le_pow_right (by omega) hn; omega) g), fun g' => absurd g g'⟩
  · have hx : ∀ n' m' t, ¬ RdA (nI n) (nI m) c n' m' t := fun n' m' t h => by
      obtain ⟨e1, _, e, h1, hn', _, _, ht⟩ := h
      rw [q_eq (by omega) (by omega)] at e1
      subst e1; subst e
      rw [q_le (by omega) (by omega)] at g; omega
    refine ⟨fun _ => h3' hx, fun _ => ⟨fun g2 => ?_, fun _ => h3' hx⟩⟩
    exfalso
    rw [Int32.le_iff_toInt_le] at g
    rw [Int32.lt_iff_toInt_lt] at g2
    omega
  have hA : RdA (nI n) (nI m) (nI t) n m t := ⟨rfl, rfl, rfl, hn1, hn3, hm1, hm2, ht⟩
  refine ⟨fun g => absurd g (nI_pos (by omega)), fun _ => ⟨fun _ => c_chosen hr (fun e => ?_) (fun e => ?_), fun g => absurd ((q_lt (by omega) (by omega)).2 ht) g⟩⟩
  · subst e
    exact q_become (n := 0) (m := 0) (t := 0) (fun j hj => W0.2.2.2.2.2.2 j (slot_hi hj)) (h1 0 n m t hr rfl hA)
  · subst e
    exact q_become (n := 0) (m := 0) (t := 0) (fun j hj => W1.2.2.2.2.2.2 j (slot_hi hj)) (h1 1 n m t hr rfl hA)
