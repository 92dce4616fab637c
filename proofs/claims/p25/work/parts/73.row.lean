def b7 (X : Int64) : Nat := (X.toBitVec &&& 7#64).toNat
theorem b7_lt (X : Int64) : b7 X < 8 := by
  unfold b7
  rw [BitVec.toNat_and]
  exact Nat.lt_of_le_of_lt Nat.and_le_right (by decide)
theorem q_b7 (X : Int64) : (X &&& 7).toInt32 = nI (b7 X) := by
  apply Int32.toBitVec_inj.1
  have h := b7_lt X
  apply BitVec.eq_of_toNat_eq
  rw [Int64.toBitVec_toInt32, BitVec.signExtend_eq_setWidth_of_le _ (by omega), Int64.toBitVec_and, BitVec.toNat_setWidth]
  simp only [nI, Int32.toBitVec_ofNat, Int32.toBitVec_ofNat']
  rw [BitVec.toNat_ofNat]
  rfl
theorem q_b7L (X : Int64) : X &&& 7 = iL (b7 X) := by
  have h := b7_lt X
  apply Int64.toInt_inj.1
  rw [iL_t (by omega) (by omega), Int64.toInt, Int64.toBitVec_and, BitVec.toInt_eq_toNat_of_lt]
  · rfl
  · show 2 * (b7 X) < 2 ^ 64
    omega
def ltN (p : Int64) (i : Nat) : Nat := b7 (p >>> ((3 * nI i).toInt64 &&& 63))
theorem q_lt5 (p : Int64) (i : Nat) : lg_cmp ((p >>> ((3 * nI i).toInt64 &&& 63)) &&& 7) 5 ≤ 0 ↔ ltN p i < 6 := by
  have h := b7_lt (p >>> ((3 * nI i).toInt64 &&& 63))
  rw [q_b7L, show (5 : Int64) = iL 5 from by decide, iL_le (by omega) (by omega) (by omega) (by omega)]
  unfold ltN
  omega
/-- the row's letters that a call's number holds -/
def rwN (lt : Nat → Nat) (p : Int64) (n : Nat) : Nat → Nat := fun i => if i < n then ltN p i else lt i
theorem RowC_cut {z : Nat} {lt : Nat → Nat} {ls bs : Nat → Int32} (R : RowC z lt ls bs) : RowC 0 lt ls bs :=
  ⟨by omega, R.2.1, fun i hi => absurd hi (by omega), fun k hk => R.2.2.2 k (by omega)⟩
theorem c_row {z : Nat} {lt : Nat → Nat} {ls bs : Nat → Int32} (R : RowC z lt ls bs) {p : Int64} {x : Int32} {K : Int32 → Int32 → (Nat → Int32) → (Nat → Int32) → Prop}
    (h1 : ∀ n, n ≤ 20 → x = nI n → (∀ i, i < n → ltN p i < 6) → ∀ ls' bs', RowC n (rwN lt p n) ls' bs' → K (nI 1) (nI n) ls' bs')
    (h2 : ∀ n i, n ≤ 20 → x = nI n → i < n → ¬ ltN p i < 6 → K (-nI 2) (nI z) ls bs)
    (h0 : (∀ n, n ≤ 20 → x ≠ nI n) → K (-nI 3) (nI z) ls bs) : wX11_row p x (nI z) ls bs K := by
  have hz := R.1
  unfold wX11_row
  rcases q_out (x := x) (N := 21) (by omega) with (g | g) | ⟨n, hn, rfl⟩
  · refine ⟨fun _ => h0 ?_, fun g' => absurd g g'⟩
    intro s hs e; subst e; exact absurd g (nI_pos (by omega))
  · have hx : ∀ k, k ≤ 20 → x ≠ nI k := fun s hs e => by
      subst e
      rw [q_le (by omega) (by omega)] at g; omega
    refine ⟨fun _ => h0 hx, fun _ => ⟨fun g2 => ?_, fun _ => h0 hx⟩⟩
    exfalso
    rw [Int32.le_iff_toInt_le] at g g2
    rw [nI_toInt (by omega)] at g
    rw [show ((20 : Int32)).toInt = 20 from by decide] at g2
    omega
  · refine ⟨fun g => absurd g (nI_pos (by omega)), fun _ => ⟨fun _ => ?_, fun g => absurd ((q_le (by omega) (by omega)).2 (show n ≤ 20 by omega)) g⟩⟩
    unfold wX11_row_L16
    intro P hP
    refine q_cnt0 (Q := fun i => (∀ j, j < i → ltN p j < 6) → P (nI i)) n ?_ ?_ (fun j hj => absurd hj (by omega))
    · intro hall
      refine hP _ ⟨fun _ => ?_, fun g => absurd (Int32.le_refl _) g⟩
      have c0 : ∀ {K : Int32 → Prop}, K (nI 0) → wX6_cut 0 (nI z) K := fun {K} h => by
        unfold wX6_cut
        refine ⟨fun g => absurd g (by decide), fun _ => ⟨fun g => ?_, fun _ => h⟩⟩
        rw [show (0 : Int32) = nI 0 from rfl, q_le (by omega) (by omega)] at g
        have : z = 0 := by omega
        subst this; exact h
      refine c0 ?_
      unfold wX11_row_L53
      intro P hP
      refine q_cnt0 (Q := fun i => ∀ ls bs, RowC i (rwN lt p i) ls bs → P (nI i) (nI i) ls bs) n ?_ ?_ ls bs ?_
      · intro ls bs R'
        exact hP _ _ _ _ ⟨fun _ => h1 n (by omega) rfl hall _ _ R', fun g => absurd (Int32.le_refl _) g⟩
      · intro i hi ih ls bs R'
        refine hP _ _ _ _ ⟨fun g => ?_, fun _ => ?_⟩
        · rw [q_le (by omega) (by omega)] at g; omega
        · unfold wX11_letterOf
          rw [q_b7]
          refine q_append R' (by omega) (hall i hi) (fun bs' R'' => ?_)
          rintro _ rfl
          rw [show (1 : Int32) = nI 1 from rfl, nI_add]
          refine ih _ _ ?_
          have e : rwN lt p (i + 1) = updN (rwN lt p i) i (b7 (p >>> ((3 * nI i).toInt64 &&& 63))) := by
            funext j
            unfold rwN updN
            by_cases h : j = i
            · subst h; rw [if_pos (by omega), if_pos rfl]; rfl
            · rw [if_neg h]
              dsimp only
              by_cases g : j < i
              · rw [if_pos g, if_pos (by omega)]
              · rw [if_neg g, if_neg (by omega)]
          rw [e]
          exact R''
      · have := RowC_cut R
        rw [show rwN lt p 0 = lt from by funext j; unfold rwN; rw [if_neg (by omega)]]
        exact this
    · intro i hi ih hall
      refine hP _ ⟨fun g => ?_, fun _ => ?_⟩
      · rw [q_le (by omega) (by omega)] at g; omega
      · unfold wX11_letterOf
        have hb := b7_lt (p >>> ((3 * nI i).toInt64 &&& 63))
        rw [q_b7]
        dsimp only
        rw [show (6 : Int32) = nI 6 from rfl, q_lt (by omega) (by omega)]
        refine ⟨fun g => ?_, fun g => h2 n i (by omega) rfl hi g⟩
        rintro _ rfl
        rw [show (1 : Int32) = nI 1 from rfl, nI_add]
        refine ih (fun j hj => ?_)
        rcases Nat.lt_or_ge j i with h | h
        · exact hall j h
        · have : j = i := by omega
          subst this; exact g
theorem m_row {z : Nat} {lt : Nat → Nat} (hz : z ≤ 24) {ro : Nat → Int32} {p : Int64} {x : Int32} {K : Int32 → Int32 → (Nat → Int32) → Prop}
    (h1 : ∀ n, n ≤ 20 → x = nI n → (∀ i, i < n → ltN p i < 6) → ∀ ro', (∀ i, i < n → ro' i = nI (rwN lt p n i)) → K (nI 1) (nI n) ro')
    (h2 : ∀ n i, n ≤ 20 → x = nI n → i < n → ¬ ltN p i < 6 → K (-nI 2) (nI z) ro)
    (h0 : (∀ n, n ≤ 20 → x ≠ nI n) → K (-nI 3) (nI z) ro) : wX12_row p x (nI z) ro K := by
  unfold wX12_row
  have := q_inN (x := x) (n := 21) (by omega) (by omega) (K := fun r1 => ((r1 = 0 → K (-3) (nI z) ro) ∧ (¬ r1 = 0 → (wX12_row_L16 p x (nI z) ro K (fun i16_4 => (wX12_row_L51 p x (fun i51_4 A_row_51 => K 1 x A_row_51) 0 ro)) 0)))) (fun n hn e => ⟨fun g => absurd g (by decide), fun _ => ?_⟩) (fun g => ⟨fun _ => h0 (fun n hn => g n (by omega)), fun g => absurd rfl g⟩)
  · rw [show nI 21 - (1 : Int32) = 20 from by decide] at this
    exact this
  · subst e
    unfold wX12_row_L16
    intro P hP
    refine q_cnt0 (Q := fun i => (∀ j, j < i → ltN p j < 6) → P (nI i)) n ?_ ?_ (fun j hj => absurd hj (by omega))
    · intro hall
      refine hP _ ⟨fun _ => ?_, fun g => absurd (Int32.le_refl _) g⟩
      unfold wX12_row_L51
      intro P hP
      refine q_cnt0 (Q := fun i => ∀ ro, (∀ j, j < i → ro j = nI (rwN lt p n j)) → P (nI i) ro) n ?_ ?_ ro (fun j hj => absurd hj (by omega))
      · intro ro hr
        exact hP _ _ ⟨fun _ => h1 n (by omega) rfl hall _ hr, fun g => absurd (Int32.le_refl _) g⟩
      · intro i hi ih ro hr
        refine hP _ _ ⟨fun g => ?_, fun _ => ?_⟩
        · rw [q_le (by omega) (by omega)] at g; omega
        · rw [q_b7]
          rintro _ rfl
          refine ⟨(q_in (by omega)).2 (by omega), ?_⟩
          rintro _ rfl _ rfl
          rw [q_cl (by omega), show (1 : Int32) = nI 1 from rfl, nI_add]
          refine ih _ (fun j hj => ?_)
          rcases Nat.lt_or_ge j i with h | h
          · rw [q_un (by omega)]; exact hr j h
          · have : j = i := by omega
            subst this
            rw [q_us]
            unfold rwN
            rw [if_pos hi]
            rfl
    · intro i hi ih hall
      refine hP _ ⟨fun g => ?_, fun _ => ?_⟩
      · rw [q_le (by omega) (by omega)] at g; omega
      · rw [q_lt5]
        refine ⟨fun g => ?_, fun g => h2 n i (by omega) rfl hi g⟩
        rintro _ rfl
        rw [show (1 : Int32) = nI 1 from rfl, nI_add]
        refine ih (fun j hj => ?_)
        rcases Nat.lt_or_ge j i with h | h
        · exact hall j h
        · have : j = i := by omega
          subst this; exact g
