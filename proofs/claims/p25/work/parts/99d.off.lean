theorem q_nn {x : Int32} (h : ¬ x < 0) : ∃ n, n < 2147483648 ∧ x = nI n := by
  have h1 : 0 ≤ x.toInt := by
    rw [Int32.lt_iff_toInt_lt] at h
    have : (0 : Int32).toInt = 0 := by decide
    omega
  have h2 := Int32.toInt_lt x
  refine ⟨x.toInt.toNat, by omega, ?_⟩
  apply Int32.toInt_inj.1
  rw [nI_toInt (by omega)]; omega
theorem c_of {n0 m0 t0 n1 m1 t1 : Nat} {w0 w1 : Nat → Nat} (W0 : WfR n0 m0 t0 w0) (W1 : WfR n1 m1 t1 w1) {c0 c1 : Nat} (hc0 : c0 < 2147483648) (hc1 : c1 < 2147483648) {qn0 : Int32} {qz0 : Int32} {ql0 : Nat → Int32} {qb0 : Nat → Int32} {qs0 : Int32} {qc0 : Nat → Int32} {qi0 : Nat → Int32} {qw0 : Nat → Int64} {qt0 : Nat → Int32} {qn1 : Int32} {qz1 : Int32} {ql1 : Nat → Int32} {qb1 : Nat → Int32} {qs1 : Int32} {qc1 : Nat → Int32} {qi1 : Nat → Int32} {qw1 : Nat → Int64} {qt1 : Nat → Int32} (L0 : LInv w0 n0 t0 c0 qn0 qz0 ql0 qb0 qw0 qt0) (L1 : LInv w1 n1 t1 c1 qn1 qz1 ql1 qb1 qw1 qt1) {x p q s : Int32} {K : Int32 → Int32 → Int32 → (Nat → Int32) → (Nat → Int32) → Int32 → (Nat → Int32) → (Nat → Int32) → (Nat → Int64) → (Nat → Int32) → Int32 → Int32 → (Nat → Int32) → (Nat → Int32) → Int32 → (Nat → Int32) → (Nat → Int32) → (Nat → Int64) → (Nat → Int32) → Prop}
    (h1 : ∀ r n i k v, r < 2 → x = nI r → n ≤ 5 → p = nI n → i < 2147483648 → q = nI i → k < 2147483648 → s = nI k → ofV (takC (sel r w0 w1) (sel r n0 n1) (sel r t0 t1) n) n i k v → ∀ qn2 qz2 ql2 qb2 qs2 qc2 qi2 qw2 qt2 qn3 qz3 ql3 qb3 qs3 qc3 qi3 qw3 qt3, LInv w0 n0 t0 c0 qn2 qz2 ql2 qb2 qw2 qt2 → LInv w1 n1 t1 c1 qn3 qz3 ql3 qb3 qw3 qt3 → K v qn2 qz2 ql2 qb2 qs2 qc2 qi2 qw2 qt2 qn3 qz3 ql3 qb3 qs3 qc3 qi3 qw3 qt3)
    (h3 : ∀ r, r < 2 → x = nI r → (∀ n i k, n ≤ 5 → p = nI n → i < 2147483648 → q = nI i → k < 2147483648 → s ≠ nI k) → K (-nI 3) qn0 qz0 ql0 qb0 qs0 qc0 qi0 qw0 qt0 qn1 qz1 ql1 qb1 qs1 qc1 qi1 qw1 qt1)
    (h2 : (∀ r, r < 2 → x ≠ nI r) → K (-nI 2) qn0 qz0 ql0 qb0 qs0 qc0 qi0 qw0 qt0 qn1 qz1 ql1 qb1 qs1 qc1 qi1 qw1 qt1) :
    wX11_of x p q s (nI n0) (nI m0) (nI t0) (nI c0) (fun j => nI (w0 j)) (nI n1) (nI m1) (nI t1) (nI c1) (fun j => nI (w1 j)) qn0 qz0 ql0 qb0 qs0 qc0 qi0 qw0 qt0 qn1 qz1 ql1 qb1 qs1 qc1 qi1 qw1 qt1 K := by
  unfold wX11_of
  refine c_isR (fun r hr e => ⟨fun g => absurd g (by decide), fun _ => ?_⟩) (fun g => ⟨fun _ => h2 g, fun g => absurd rfl g⟩)
  refine ⟨fun g => h3 r hr e (fun n i k hn en _ _ _ _ => by rw [en] at g; exact absurd g (nI_pos (by omega))), fun g1 => ⟨fun g => h3 r hr e (fun n i k hn en _ _ _ _ => by rw [en] at g; exact absurd ((q_lt (a := 5) (by omega) (by omega)).1 g) (by omega)), fun g2 => ?_⟩⟩
  obtain ⟨n, hn, en⟩ := q_nn g1
  subst en
  have hn5 : n ≤ 5 := by
    rcases Nat.lt_or_ge 5 n with g3 | g3
    · exact absurd ((q_lt (a := 5) (by omega) (by omega)).2 g3) g2
    · exact g3
  refine ⟨fun g => h3 r hr e (fun n i k _ _ hi ei _ _ => by rw [ei] at g; exact absurd g (nI_pos hi)), fun g3 => ?_⟩
  obtain ⟨i, hi, ei⟩ := q_nn g3
  subst ei
  refine ⟨fun g4 => ?_, fun g4 => h3 r hr e (fun n i k _ _ _ _ hk ek => g4 (by rw [ek]; exact (q_le (a := 0) (by omega) hk).2 (Nat.zero_le k)))⟩
  obtain ⟨k, hk, ek⟩ := q_nn (x := s) (fun g5 => by
    rw [Int32.lt_iff_toInt_lt] at g5
    rw [Int32.le_iff_toInt_le] at g4
    omega)
  subst ek
  have hh := fun v => h1 r n i k v hr e hn5 rfl hi rfl hk rfl
  subst e
  unfold wX11_listingOf
  rw [show (0 : Int32) = nI 0 from rfl, q_eq (by omega) (by omega)]
  refine ⟨fun g => ?_, fun g => ?_⟩
  rotate_left
  · have er : r = 1 := by omega
    subst er
    exact q_ltAt W1 hc1 L1 hn5 hi hk (fun v qn3 qz3 ql3 qb3 qs3 qc3 qi3 qw3 qt3 hv L3 => hh v hv qn0 qz0 ql0 qb0 qs0 qc0 qi0 qw0 qt0 qn3 qz3 ql3 qb3 qs3 qc3 qi3 qw3 qt3 L0 L3)
  · have er : r = 0 := by omega
    subst er
    exact q_ltAt W0 hc0 L0 hn5 hi hk (fun v qn3 qz3 ql3 qb3 qs3 qc3 qi3 qw3 qt3 hv L3 => hh v hv qn3 qz3 ql3 qb3 qs3 qc3 qi3 qw3 qt3 qn1 qz1 ql1 qb1 qs1 qc1 qi1 qw1 qt1 L3 L1)
theorem m_of {n0 m0 t0 n1 m1 t1 : Nat} {w0 w1 : Nat → Nat} {st mk tk pu go cl : Nat → Int32} (M : MdOk n0 m0 t0 w0 n1 m1 t1 w1 st mk tk pu go cl) {x p q s a b c : Int32} {so sc ss sl : Nat → Int32} {K : Int32 → Int32 → Int32 → Int32 → (Nat → Int32) → (Nat → Int32) → (Nat → Int32) → (Nat → Int32) → Prop}
    (h1 : ∀ r n i k v, r < 2 → x = nI r → n ≤ 5 → p = nI n → i < 2147483648 → q = nI i → k < 2147483648 → s = nI k → ofV (takC (sel r w0 w1) (sel r n0 n1) (sel r t0 t1) n) n i k v → ∀ a b c so sc ss sl, K v a b c so sc ss sl)
    (h3 : ∀ r, r < 2 → x = nI r → (∀ n i k, n ≤ 5 → p = nI n → i < 2147483648 → q = nI i → k < 2147483648 → s ≠ nI k) → K (-nI 3) a b c so sc ss sl)
    (h2 : (∀ r, r < 2 → x ≠ nI r) → K (-nI 2) a b c so sc ss sl) :
    wX12_of x p q s a b c st mk tk pu go cl so sc ss sl K := by
  unfold wX12_of
  refine q_isR (fun r hr e => ⟨fun g => absurd g (by decide), fun _ => ?_⟩) (fun g => ⟨fun _ => h2 g, fun g => absurd rfl g⟩)
  refine q_behind (z := 5) (by omega) (fun n hn en => ⟨fun g => absurd g (by decide), fun _ => ?_⟩) (fun g => ⟨fun _ => h3 r hr e (fun n i k hn en => absurd en (g n hn)), fun g => absurd rfl g⟩)
  subst en
  refine ⟨fun g => h3 r hr e (fun n i k _ _ hi ei _ _ => by rw [ei] at g; exact absurd g (nI_pos hi)), fun g3 => ?_⟩
  obtain ⟨i, hi, ei⟩ := q_nn g3
  subst ei
  refine ⟨fun g4 => ?_, fun g4 => h3 r hr e (fun n i k _ _ _ _ hk ek => g4 (by rw [ek]; exact (q_le (a := 0) (by omega) hk).2 (Nat.zero_le k)))⟩
  obtain ⟨k, hk, ek⟩ := q_nn (x := s) (fun g5 => by
    rw [Int32.lt_iff_toInt_lt] at g5
    rw [Int32.le_iff_toInt_le] at g4
    omega)
  subst ek
  have hh := fun v => h1 r n i k v hr e hn rfl hi rfl hk rfl
  subst e
  exact m_letterOf hr M hn hi hk (fun v a b c so sc ss sl hv => hh v hv a b c so sc ss sl)
