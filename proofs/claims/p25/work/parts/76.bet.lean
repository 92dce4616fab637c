theorem bas_0 {lt : Nat → Nat} {k : Nat} : bas lt k = 0 ↔ stk lt k = [] ∧ frc lt k = 0 := by
  cases e : stk lt k with
  | nil => rw [bas_nil e]; simp
  | cons o r => rw [bas_cons e]; simp
theorem q_ph : ∀ r, r < 2 → ∀ x, x < 512 → (nI (ph r x) >>> ((9 * nI r) &&& 31)) &&& 511 = nI x := by decide +kernel
theorem q_ps : ∀ r, r < 2 → ∀ c, c < 8 → (nI (ps r c) >>> ((3 * nI r) &&& 31)) &&& 7 = nI c := by decide +kernel
theorem rsy_r {n0 n1 : Nat} {w0 w1 : Nat → Nat} {lt : Nat → Nat} {r : Nat} (hr : r < 2) (h0 : 1 ≤ n0) (h1 : 1 ≤ n1) (R0 : ∀ j, Rn n0 (w0 j)) (R1 : ∀ j, Rn n1 (w1 j)) (k : Nat) : rsy (syM r n0 w0 n1 w1) lt k = rsm (sel r w0 w1) (sel r n0 n1) lt k := by
  rcases (show r = 0 ∨ r = 1 by omega) with e | e <;> subst e
  · exact (rsy_one h0 R0 k).1
  · exact (rsy_one h1 R1 k).1
theorem c_between {n0 m0 t0 n1 m1 t1 : Nat} {w0 w1 : Nat → Nat} (W0 : WfR n0 m0 t0 w0) (W1 : WfR n1 m1 t1 w1) {z : Nat} {lt : Nat → Nat} {ls bs : Nat → Int32} (R : RowC z lt ls bs) {x sm : Int32} {co si : Nat → Int32} {K : Int32 → Int32 → (Nat → Int32) → (Nat → Int32) → Prop}
    (h1 : ∀ r, r < 2 → x = nI r → bas lt z = 0 → ∀ sm co si, K (nI (snA (sel r w0 w1) (sel r n0 n1) lt z)) sm co si)
    (h4 : ∀ r, r < 2 → x = nI r → bas lt z ≠ 0 → K (-nI 4) sm co si)
    (h2 : (∀ r, r < 2 → x ≠ nI r) → K (-nI 2) sm co si) :
    wX11_between x (nI n0) (nI m0) (fun j => nI (w0 j)) (nI n1) (nI m1) (fun j => nI (w1 j)) (nI z) ls bs sm co si K := by
  have hz := R.1
  have hb := R.2.2.2 z (Nat.le_refl z)
  have hbz := bas_le lt z
  unfold wX11_between
  refine c_isR (fun r hr e => ⟨fun g => absurd g (by decide), fun _ => ?_⟩) (fun g => ⟨fun _ => h2 g, fun g => absurd rfl g⟩)
  subst e
  unfold wX6_isWhole
  rw [q_cl (show z < 2147483648 by omega), q_in (by omega), hb, show (0 : Int32) = nI 0 from rfl, q_eq (by omega) (by omega)]
  refine ⟨by omega, fun g => ⟨fun g2 => absurd g2 (by decide), fun _ => ?_⟩, fun g => ⟨fun _ => h4 r hr rfl g, fun g2 => absurd rfl g2⟩⟩
  have K1 : ∀ {n m t : Nat} {w : Nat → Nat}, WfR n m t w → (∀ sm co si, K (nI (snA w n lt z)) sm co si) → wX6_size (nI z) (fun r6 => wX9_follow r6 sm co si (nI n) (nI m) (fun j => nI (w j)) (nI z) ls bs (fun u7 u8 u9 => wX6_size (nI z) (fun r10 => wX9_sinceAt r10 u9 (fun r11 => K r11 u7 u8 u9)))) := fun {n m t w} W h => by
    unfold wX6_size
    refine q_followC W R (Nat.le_refl z) (fun co' si' H => ?_)
    unfold wX9_sinceAt
    dsimp only
    rw [q_in (by omega), q_cl (by omega)]
    refine ⟨fun g => absurd g (nI_pos (by omega)), fun _ => ⟨fun g => ?_, fun _ => ⟨by omega, ?_⟩⟩⟩
    · rw [show (25 : Int32) = nI 25 from rfl, q_le (by omega) (by omega)] at g; omega
    · rw [(H z (Nat.le_refl z)).2]; exact h _ _ _
  refine c_chosen hr (fun e => ?_) (fun e => ?_)
  · subst e; exact K1 W0 (h1 0 (by omega) rfl g)
  · subst e; exact K1 W1 (h1 1 (by omega) rfl g)
def wfl (lt : Nat → Nat) (z i : Nat) : Nat := if stk lt z = [] ∧ frc lt i = 0 then 1 else 0
theorem wfl_s (lt : Nat → Nat) (z i : Nat) : wfl lt z (i + 1) = if 4 ≤ lt i ∧ stk lt i = [] then 0 else wfl lt z i := by
  unfold wfl
  rw [frc]
  split
  · rename_i g
    rw [if_neg (by rintro ⟨_, h⟩; omega)]
  · rfl
theorem m_between {n0 m0 t0 n1 m1 t1 : Nat} {w0 w1 : Nat → Nat} {st mk tk pu go cl : Nat → Int32} (M : MdOk n0 m0 t0 w0 n1 m1 t1 w1 st mk tk pu go cl) {z : Nat} {lt : Nat → Nat} (hz : z ≤ 24) (h6 : ∀ i, lt i < 6) {ro : Nat → Int32} (hro : ∀ i, i < z → ro i = nI (lt i)) {x a b c : Int32} {pa so sc ss sl : Nat → Int32} {K : Int32 → Int32 → Int32 → Int32 → (Nat → Int32) → (Nat → Int32) → (Nat → Int32) → (Nat → Int32) → (Nat → Int32) → Prop}
    (h1 : ∀ r, r < 2 → x = nI r → bas lt z = 0 → ∀ a b c pa so sc ss sl, K (nI (snA (sel r w0 w1) (sel r n0 n1) lt z)) a b c pa so sc ss sl)
    (h4 : ∀ r, r < 2 → x = nI r → bas lt z ≠ 0 → ∀ pa so, K (-nI 4) a b c pa so sc ss sl)
    (h2 : (∀ r, r < 2 → x ≠ nI r) → K (-nI 2) a b c pa so sc ss sl) :
    wX12_between x (nI z) a b c st mk pu go cl ro pa so sc ss sl K := by
  unfold wX12_between
  refine q_isR (fun r hr e => ⟨fun g => absurd g (by decide), fun _ => ?_⟩) (fun g => ⟨fun _ => h2 g, fun g => absurd rfl g⟩)
  subst e
  refine q_findP hz h6 hro (Nat.le_refl z) (fun pa' so' F => ?_)
  intro J hJ
  have key : J (nI (wfl lt z 0)) := by
    refine hJ _ ?_
    unfold wX12_between_L29
    intro P hP
    refine q_cnt0 (Q := fun i => P (nI (wfl lt z i)) (nI i)) z ?_ ?_
    · refine hP _ _ ?_
      refine ⟨fun _ => ?_, fun g => absurd ((q_le (by omega) (by omega)).2 (Nat.le_refl z)) g⟩
      have e := @bas_0 lt z
      unfold wfl
      refine ⟨fun g => ?_, fun g => ?_⟩
      · refine h4 r hr rfl (fun g2 => ?_) _ _
        rw [if_pos (e.1 g2)] at g
        exact absurd g (by decide)
      · have g1 : bas lt z = 0 := by
          rw [e]
          by_cases g2 : stk lt z = [] ∧ frc lt z = 0
          · exact g2
          · rw [if_neg g2] at g; exact absurd rfl g
        refine m_goRow (by omega) rfl M h6 hz hro (fun sc' ss' sl' _ => ?_)
        rw [rsy_r hr M.1.1 M.2.1.1 M.1.2.2.2.2.2.1 M.2.1.2.2.2.2.2.1]
        rw [q_ph r hr _ ?_]
        · exact h1 r hr rfl g1 _ _ _ _ _ _ _ _
        · have := cs_lt (MdOk_r M hr).1 lt z
          exact this.2
    · intro i hi ih
      refine hP _ _ ?_
      rw [q_cl (show i < 2147483648 by omega), q_in (by omega), hro i hi]
      have h6i := h6 i
      have e1 := wfl_s lt z i
      have f1 : wfl lt z i < 2 := by unfold wfl; split <;> omega
      have ff := F.2 i hi
      refine ⟨fun g => absurd ((q_le (by omega) (by omega)).1 g) (by omega), fun _ => ⟨fun g => ?_, fun g => ⟨by omega, fun g4 => ?_, fun g4 => ⟨by omega, fun gp => ?_, fun gp => ?_⟩⟩⟩⟩
      · intro y ey
        rw [show (0 : Int32) = nI 0 from rfl, q_eq (by omega) (by omega)] at g
        rw [ey, nI_1]
        rw [e1, g] at ih
        rw [ite_self] at ih
        exact ih
      · intro y ey
        rw [show (4 : Int32) = nI 4 from rfl, q_lt (by omega) (by omega)] at g4
        rw [show (0 : Int32) = nI 0 from rfl, q_eq (by omega) (by omega)] at g
        rw [ey, nI_1]
        rw [e1, if_neg (by omega), show wfl lt z i = 1 from by omega] at ih
        exact ih
      · intro y ey
        rw [show (4 : Int32) = nI 4 from rfl, q_lt (by omega) (by omega)] at g4
        rw [ey, nI_1]
        rcases ff with ⟨q, hq, e, hq2⟩ | ⟨hq, e⟩
        · rw [e] at gp
          exact absurd gp (q_nm1 (by omega))
        · have hs : stk lt i = [] := by
            cases e2 : stk lt i with
            | nil => rfl
            | cons o rr => exact absurd (.inl ⟨by omega, rr, e2⟩) (hq o)
          rw [e1, if_pos ⟨by omega, hs⟩] at ih
          exact ih
      · intro y ey
        rw [show (4 : Int32) = nI 4 from rfl, q_lt (by omega) (by omega)] at g4
        rw [show (0 : Int32) = nI 0 from rfl, q_eq (by omega) (by omega)] at g
        rw [ey, nI_1]
        rcases ff with ⟨q, hq, e, hq2⟩ | ⟨hq, e⟩
        · rw [e1, if_neg ?_, show wfl lt z i = 1 from by omega] at ih
          · exact ih
          · rintro ⟨_, h⟩
            rcases hq with ⟨_, rr, h3⟩ | ⟨h3, _⟩
            · rw [h] at h3; exact absurd h3 (by simp)
            · omega
        · exact absurd e gp
  have e0 : wfl lt z 0 = if stk lt z = [] then 1 else 0 := by
    unfold wfl; simp [frc]
  rw [e0] at key
  have hl := stk_len lt z
  refine ⟨fun g => ?_, fun g => ?_⟩
  · rw [show (0 : Int32) = nI 0 from rfl, q_eq (by omega) (by omega)] at g
    rw [if_pos (List.length_eq_zero_iff.1 g)] at key
    exact key
  · rw [if_neg (fun h => g (by rw [h]; rfl))] at key
    exact key
