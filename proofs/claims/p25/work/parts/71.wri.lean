def bt (X : Int64) : Nat := (X.toBitVec &&& 255#64).toNat
theorem bt_lt (X : Int64) : bt X < 256 := by
  unfold bt
  rw [BitVec.toNat_and]
  exact Nat.lt_of_le_of_lt Nat.and_le_right (by decide)
theorem q_bt (X : Int64) : (X &&& 255).toInt32 = nI (bt X) := by
  apply Int32.toBitVec_inj.1
  have h := bt_lt X
  apply BitVec.eq_of_toNat_eq
  rw [Int64.toBitVec_toInt32, BitVec.signExtend_eq_setWidth_of_le _ (by omega), Int64.toBitVec_and, BitVec.toNat_setWidth]
  simp only [nI, Int32.toBitVec_ofNat, Int32.toBitVec_ofNat']
  rw [BitVec.toNat_ofNat]
  rfl
def byN (p : Int64) (i : Nat) : Nat := bt (p >>> ((8 * nI i).toInt64 &&& 63))
def wr (tb : Nat → Nat) (z : Nat) (f : Nat → Nat) (n : Nat) : Nat → Nat := fun j => if z ≤ j ∧ j < z + n then f (j - z) else tb j
theorem wr_0 (tb : Nat → Nat) (z : Nat) (f : Nat → Nat) : wr tb z f 0 = tb := by
  funext j; unfold wr; rw [if_neg (by omega)]
theorem wr_s (tb : Nat → Nat) (z : Nat) (f : Nat → Nat) (n : Nat) : upd (fun j => nI (wr tb z f n j)) (z + n) (nI (f n)) = fun j => nI (wr tb z f (n + 1) j) := by
  funext j
  unfold upd wr
  by_cases h : j = z + n
  · subst h
    rw [if_pos rfl, if_pos (by omega), show z + n - z = n from by omega]
  · rw [if_neg h]
    dsimp only
    by_cases g : z ≤ j ∧ j < z + n
    · rw [if_pos g, if_pos (by omega)]
    · rw [if_neg g, if_neg (by omega)]
theorem wr_lt {tb : Nat → Nat} {z n : Nat} {f : Nat → Nat} (hb : ∀ j, tb j < 256) (hf : ∀ j, f j < 256) : ∀ j, wr tb z f n j < 256 := by
  intro j; unfold wr; split
  · exact hf _
  · exact hb _
theorem c_write {z : Nat} {tb : Nat → Nat} (hz : z ≤ 160) {p : Int64} {x : Int32} {K : Int32 → Int32 → (Nat → Int32) → Prop}
    (h1 : ∀ n, 1 ≤ n → n ≤ 8 → x = nI n → z + n ≤ 160 → K (nI (z + n)) (nI (z + n)) (fun j => nI (wr tb z (byN p) n j)))
    (h5 : ∀ n, 1 ≤ n → n ≤ 8 → x = nI n → 160 < z + n → K (-nI 5) (nI z) (fun j => nI (tb j)))
    (h0 : (∀ n, 1 ≤ n → n ≤ 8 → x ≠ nI n) → K (-nI 3) (nI z) (fun j => nI (tb j))) :
    wX11_write p x (nI z) (fun j => nI (tb j)) K := by
  unfold wX11_write wX8_size
  rcases q_out (x := x) (N := 9) (by omega) with (g | g) | ⟨n, hn, rfl⟩
  · refine ⟨fun _ => h0 ?_, fun g' => ?_⟩
    · intro s _ hs e; subst e; exact absurd g (nI_pos (by omega))
    · exfalso; apply g'
      rw [Int32.lt_iff_toInt_lt] at g ⊢
      rw [show ((0 : Int32)).toInt = 0 from by decide] at g
      rw [show ((1 : Int32)).toInt = 1 from by decide]
      omega
  · have hx : ∀ n, 1 ≤ n → n ≤ 8 → x ≠ nI n := fun s _ hs e => by
      subst e; rw [q_le (by omega) (by omega)] at g; omega
    refine ⟨fun _ => h0 hx, fun _ => ⟨fun g2 => ?_, fun _ => h0 hx⟩⟩
    exfalso
    rw [Int32.le_iff_toInt_le] at g g2
    rw [nI_toInt (by omega)] at g
    rw [show ((8 : Int32)).toInt = 8 from by decide] at g2
    omega
  · rw [show (1 : Int32) = nI 1 from rfl, show (8 : Int32) = nI 8 from rfl, show (160 : Int32) = nI 160 from rfl]
    dsimp only
    rw [nI_add, q_lt (by omega) (by omega), q_le (by omega) (by omega), q_le (by omega) (by omega)]
    refine ⟨fun g => h0 (fun s s1 hs e => ?_), fun g1 => ⟨fun g8 => ⟨fun gz => ?_, fun gz => h5 n (by omega) g8 rfl (by omega)⟩, fun g => absurd (show n ≤ 8 by omega) g⟩⟩
    · rw [q_eq (by omega) (by omega)] at e; omega
    · unfold wX11_write_L35
      intro P hP
      rw [← wr_0 tb z (byN p)]
      refine q_cnt0 (Q := fun i => P (nI i) (nI (z + i)) (fun j => nI (wr tb z (byN p) i j))) n ?_ ?_
      · refine hP _ _ _ ⟨fun _ => h1 n (by omega) g8 rfl gz, fun g => absurd (Int32.le_refl _) g⟩
      · intro i hi ih
        refine hP _ _ _ ⟨fun g => ?_, fun _ => ?_⟩
        · rw [q_le (by omega) (by omega)] at g; omega
        · unfold wX8_append
          rw [q_bt]
          refine ⟨fun g => ?_, fun _ => ⟨(q_in (by omega)).2 (by omega), ?_⟩⟩
          · rw [show (160 : Int32) = nI 160 from rfl, q_le (by omega) (by omega)] at g; omega
          · rintro _ rfl _ rfl _ rfl
            rw [q_cl (by omega)]
            have := wr_s tb z (byN p) i
            rw [show (1 : Int32) = nI 1 from rfl, nI_add, nI_add]
            exact this ▸ ih
theorem m_write {z : Nat} {tb : Nat → Nat} (hz : z ≤ 160) {p : Int64} {x : Int32} {K : Int32 → Int32 → (Nat → Int32) → Prop}
    (h1 : ∀ n, 1 ≤ n → n ≤ 8 → x = nI n → z + n ≤ 160 → K (nI (z + n)) (nI (z + n)) (fun j => nI (wr tb z (byN p) n j)))
    (h5 : ∀ n, 1 ≤ n → n ≤ 8 → x = nI n → 160 < z + n → K (-nI 5) (nI z) (fun j => nI (tb j)))
    (h0 : (∀ n, 1 ≤ n → n ≤ 8 → x ≠ nI n) → K (-nI 3) (nI z) (fun j => nI (tb j))) :
    wX12_write p x (nI z) (fun j => nI (tb j)) K := by
  unfold wX12_write
  refine q_in3 (fun g1 g2 => ⟨fun g => absurd g (by decide), fun _ => ?_⟩) (fun g => ⟨fun _ => h0 (fun n n1 n8 e => ?_), fun g => absurd rfl g⟩)
  · rcases q_out (x := x) (N := 9) (by omega) with (g | g) | ⟨n, hn, rfl⟩
    · exfalso; apply g1
      rw [Int32.lt_iff_toInt_lt] at g ⊢
      rw [show ((0 : Int32)).toInt = 0 from by decide] at g
      rw [show ((1 : Int32)).toInt = 1 from by decide]
      omega
    · exfalso; apply g2
      rw [Int32.le_iff_toInt_le, nI_toInt (by omega)] at g
      rw [Int32.lt_iff_toInt_lt, show ((8 : Int32)).toInt = 8 from by decide]
      omega
    · have n1 : 1 ≤ n := by
        rw [show (1 : Int32) = nI 1 from rfl, q_lt (by omega) (by omega)] at g1; omega
      rw [show (160 : Int32) = nI 160 from rfl, nI_add, q_le (by omega) (by omega)]
      refine ⟨fun gz => ?_, fun gz => h5 n n1 (by omega) rfl (by omega)⟩
      unfold wX12_write_L31
      intro P hP
      rw [← wr_0 tb z (byN p)]
      refine q_cnt0 (Q := fun i => P (nI i) (fun j => nI (wr tb z (byN p) i j))) n ?_ ?_
      · refine hP _ _ ⟨fun _ => ?_, fun g => absurd (Int32.le_refl _) g⟩
        rintro _ rfl
        exact h1 n n1 (by omega) rfl gz
      · intro i hi ih
        refine hP _ _ ⟨fun g => ?_, fun _ => ?_⟩
        · rw [q_le (by omega) (by omega)] at g; omega
        · rw [q_bt, nI_add]
          rintro _ rfl
          refine ⟨(q_in (by omega)).2 (by omega), ?_⟩
          rintro _ rfl _ rfl
          rw [q_cl (by omega)]
          have := wr_s tb z (byN p) i
          rw [show (1 : Int32) = nI 1 from rfl, nI_add]
          exact this ▸ ih
  · subst e
    rcases g with g | g
    · rw [show (1 : Int32) = nI 1 from rfl, q_lt (by omega) (by omega)] at g; omega
    · rw [show (8 : Int32) = nI 8 from rfl, q_lt (by omega) (by omega)] at g; omega
