theorem c_partner {z : Nat} {lt : Nat → Nat} {ls bs : Nat → Int32} (R : RowC z lt ls bs) {x : Int32} {K : Int32 → Prop}
    (h1 : ∀ i j, i < z → x = nI i → prtI lt z i j → K (nI j))
    (hn : ∀ i, i < z → x = nI i → (∀ j, ¬ prtI lt z i j) → K (-nI 1))
    (h0 : (∀ i, i < z → x ≠ nI i) → K (-nI 3)) : wX11_partner x (nI z) ls bs K := by
  have hz := R.1
  unfold wX11_partner wX6_size
  rcases q_out (x := x) (N := z) (by omega) with (g | g) | ⟨i, hi, rfl⟩
  · refine ⟨fun _ => h0 ?_, fun g' => absurd g g'⟩
    intro s hs e; subst e; exact absurd g (nI_pos (by omega))
  · refine ⟨fun _ => h0 ?_, fun _ => ⟨fun g2 => ?_, fun _ => h0 ?_⟩⟩
    · intro s hs e; subst e
      rw [q_le (by omega) (by omega)] at g; omega
    · exfalso
      rw [Int32.lt_iff_toInt_lt] at g2
      rw [Int32.le_iff_toInt_le] at g
      omega
    · intro s hs e; subst e
      rw [q_le (by omega) (by omega)] at g; omega
  · refine ⟨fun g => absurd g (nI_pos (by omega)), fun _ => ⟨fun _ => q_partnerOf R hi (fun j hj => h1 i j hi rfl hj) (fun g => hn i hi rfl g), fun g => absurd ((q_lt (by omega) (by omega)).2 hi) g⟩⟩
theorem m_partner {z : Nat} {lt : Nat → Nat} (hz : z ≤ 24) (h6 : ∀ i, lt i < 6) {ro : Nat → Int32} (hr : ∀ i, i < z → ro i = nI (lt i)) {x : Int32} {pa so : Nat → Int32} {K : Int32 → (Nat → Int32) → (Nat → Int32) → Prop}
    (h1 : ∀ i j, i < z → x = nI i → prtI lt z i j → ∀ pa' so', K (nI j) pa' so')
    (hn : ∀ i, i < z → x = nI i → (∀ j, ¬ prtI lt z i j) → ∀ pa' so', K (-nI 1) pa' so')
    (h0 : (∀ i, i < z → x ≠ nI i) → K (-nI 3) pa so) : wX12_partner x (nI z) ro pa so K := by
  unfold wX12_partner
  rcases Nat.eq_zero_or_pos z with e | hp
  · subst e
    refine q_in3 (fun g1 g2 => ?_) (fun _ => ⟨fun _ => h0 (fun i hi => absurd hi (by omega)), fun g => absurd rfl g⟩)
    exfalso
    rw [Int32.lt_iff_toInt_lt] at g1 g2
    rw [show ((0 : Int32)).toInt = 0 from by decide] at g1
    rw [show (nI 0 - (1 : Int32)).toInt = -1 from by decide] at g2
    omega
  · refine q_inN hp (by omega) (fun i hi e => ⟨fun g => absurd g (by decide), fun _ => ?_⟩) (fun g => ⟨fun _ => h0 g, fun g => absurd rfl g⟩)
    subst e
    refine q_findP hz h6 hr (Nat.le_refl z) (fun pa' so' F => ?_)
    rw [q_in (by omega), q_cl (by omega)]
    refine ⟨by omega, ?_⟩
    rcases F.2 i hi with ⟨q, hq, e, _⟩ | ⟨hq, e⟩
    · rw [e]; exact h1 i q hi rfl hq _ _
    · rw [e]; exact hn i hi rfl hq _ _
theorem q_behind {z : Nat} (hz : z ≤ 24) {x : Int32} {K : Int32 → Prop} (h1 : ∀ k, k ≤ z → x = nI k → K (nI 1)) (h0 : (∀ k, k ≤ z → x ≠ nI k) → K (nI 0)) : wX12_in x 0 (nI z) K := by
  have := q_inN (x := x) (n := z + 1) (by omega) (by omega) (K := K) (fun k hk e => h1 k (by omega) e) (fun g => h0 (fun k hk => g k (by omega)))
  rw [show nI (z + 1) - (1 : Int32) = nI z from by rw [show (1 : Int32) = nI 1 from rfl, q_subN (by omega), Nat.add_sub_cancel]] at this
  exact this
theorem c_behind {z : Nat} (hz : z ≤ 24) {x : Int32} {K : Int32 → Prop} (h1 : ∀ k, k ≤ z → x = nI k → K (nI 1)) (h0 : (∀ k, k ≤ z → x ≠ nI k) → K (nI 0)) : wX11_isBehind x (nI z) K := by
  unfold wX11_isBehind wX6_size
  rcases q_out (x := x) (N := z + 1) (by omega) with (g | g) | ⟨k, hk, rfl⟩
  · refine ⟨fun _ => h0 ?_, fun g' => absurd g g'⟩
    intro s hs e; subst e; exact absurd g (nI_pos (by omega))
  · have hx : ∀ k, k ≤ z → x ≠ nI k := fun s hs e => by
      subst e
      rw [q_le (by omega) (by omega)] at g; omega
    refine ⟨fun _ => h0 hx, fun _ => ⟨fun _ => h0 hx, fun g2 => ?_⟩⟩
    exfalso; apply g2
    rw [Int32.lt_iff_toInt_lt]
    rw [Int32.le_iff_toInt_le] at g
    rw [nI_toInt (by omega)] at g ⊢
    omega
  · refine ⟨fun g => absurd g (nI_pos (by omega)), fun _ => ⟨fun g => ?_, fun _ => h1 k (by omega) rfl⟩⟩
    rw [q_lt (by omega) (by omega)] at g; omega
theorem c_depth {z : Nat} {lt : Nat → Nat} {ls bs : Nat → Int32} (R : RowC z lt ls bs) {x : Int32} {K : Int32 → Prop}
    (h1 : ∀ k, k ≤ z → x = nI k → K (nI (stk lt k).length))
    (h0 : (∀ k, k ≤ z → x ≠ nI k) → K (-nI 3)) : wX11_depth x (nI z) ls bs K := by
  unfold wX11_depth
  refine c_behind R.1 (fun k hk e => ⟨fun g => absurd g (by decide), fun _ => ?_⟩) (fun g => ⟨fun _ => h0 g, fun g => absurd rfl g⟩)
  subst e
  exact q_depthB R hk (h1 k hk rfl)
theorem m_depth {z : Nat} {lt : Nat → Nat} (hz : z ≤ 24) (h6 : ∀ i, lt i < 6) {ro : Nat → Int32} (hr : ∀ i, i < z → ro i = nI (lt i)) {x : Int32} {pa so : Nat → Int32} {K : Int32 → (Nat → Int32) → (Nat → Int32) → Prop}
    (h1 : ∀ k, k ≤ z → x = nI k → ∀ pa' so', K (nI (stk lt k).length) pa' so')
    (h0 : (∀ k, k ≤ z → x ≠ nI k) → K (-nI 3) pa so) : wX12_depth x (nI z) ro pa so K := by
  unfold wX12_depth
  refine q_behind hz (fun k hk e => ⟨fun g => absurd g (by decide), fun _ => ?_⟩) (fun g => ⟨fun _ => h0 g, fun g => absurd rfl g⟩)
  subst e
  exact q_findP hz h6 hr hk (fun pa' so' _ => h1 k hk rfl pa' so')
