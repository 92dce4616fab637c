def scanF (p : Nat → Bool) : Nat → Nat → Nat
  | 0, i => i
  | f + 1, i => if p i then scanF p f (i + 1) else i
/-- the first place from i on where p isn't so, or z -/
def scan (p : Nat → Bool) (z i : Nat) : Nat := scanF p (z - i) i
theorem scan_ge {p : Nat → Bool} {z i : Nat} (h : z ≤ i) : scan p z i = i := by
  unfold scan; rw [show z - i = 0 from by omega]; rfl
theorem scan_t {p : Nat → Bool} {z i : Nat} (h : i < z) (hp : p i = true) : scan p z i = scan p z (i + 1) := by
  unfold scan; rw [show z - i = (z - (i + 1)) + 1 from by omega]; simp [scanF, hp]
theorem scan_f {p : Nat → Bool} {z i : Nat} (hp : p i = false) : scan p z i = i := by
  unfold scan
  cases z - i with
  | zero => rfl
  | succ d => simp [scanF, hp]
theorem scan_spec (p : Nat → Bool) (z : Nat) : ∀ i, i ≤ z → i ≤ scan p z i ∧ scan p z i ≤ z ∧ (∀ j, i ≤ j → j < scan p z i → p j = true) ∧ (scan p z i < z → p (scan p z i) = false) := by
  refine q_cnt ?_ ?_
  · rw [scan_ge (Nat.le_refl z)]
    exact ⟨Nat.le_refl _, Nat.le_refl _, fun j h1 h2 => by omega, fun h => by omega⟩
  · intro i hi ih
    cases hp : p i with
    | false => rw [scan_f hp]; exact ⟨Nat.le_refl _, by omega, fun j h1 h2 => by omega, fun _ => hp⟩
    | true =>
      rw [scan_t hi hp]
      obtain ⟨h1, h2, h3, h4⟩ := ih
      refine ⟨by omega, h2, fun j g1 g2 => ?_, h4⟩
      rcases Nat.lt_or_ge i j with g | g
      · exact h3 j (by omega) g2
      · rw [show j = i from by omega]; exact hp
/-- 1 a small letter, 2 a digit, 0 any other byte -/
def kd (b : Nat) : Nat := if 97 ≤ b ∧ b ≤ 122 then 1 else if 48 ≤ b ∧ b ≤ 57 then 2 else 0
/-- where the token begins that is next from i on -/
def tkS (tb : Nat → Nat) (z i : Nat) : Nat := scan (fun j => tb j == 32) z i
/-- where a token ends that begins at s -/
def tkN (tb : Nat → Nat) (z s : Nat) : Nat := if z ≤ s then s else if kd (tb s) = 0 then s + 1 else scan (fun j => kd (tb j) == kd (tb s)) z (s + 1)
def tkE (tb : Nat → Nat) (z i : Nat) : Nat := tkN tb z (tkS tb z i)
theorem tkS_spec (tb : Nat → Nat) {z i : Nat} (h : i ≤ z) : i ≤ tkS tb z i ∧ tkS tb z i ≤ z := by
  have := scan_spec (fun j => tb j == 32) z i h
  exact ⟨this.1, this.2.1⟩
theorem tkN_spec (tb : Nat → Nat) {z s : Nat} (h : s ≤ z) : s ≤ tkN tb z s ∧ tkN tb z s ≤ z ∧ (s < z → s < tkN tb z s) := by
  unfold tkN
  split
  · exact ⟨Nat.le_refl _, h, fun g => by omega⟩
  · split
    · exact ⟨by omega, by omega, fun g => by omega⟩
    · have := scan_spec (fun j => kd (tb j) == kd (tb s)) z (s + 1) (by omega)
      exact ⟨by omega, this.2.1, fun g => by omega⟩
theorem tkN_kd (tb : Nat → Nat) {z s : Nat} (h : s < z) (hk : kd (tb s) ≠ 0) : (∀ j, s ≤ j → j < tkN tb z s → kd (tb j) = kd (tb s)) := by
  intro j h1 h2
  unfold tkN at h2
  rw [if_neg (by omega), if_neg hk] at h2
  rcases Nat.lt_or_ge s j with g | g
  · have := (scan_spec (fun j => kd (tb j) == kd (tb s)) z (s + 1) (by omega)).2.2.1 j (by omega) h2
    simpa using this
  · rw [show j = s from by omega]
theorem tkE_spec (tb : Nat → Nat) {z i : Nat} (h : i ≤ z) : i ≤ tkE tb z i ∧ tkE tb z i ≤ z := by
  have h1 := tkS_spec tb h
  have h2 := tkN_spec tb h1.2
  unfold tkE; omega
theorem kd_lt (b : Nat) : kd b < 3 := by unfold kd; split <;> (try split) <;> omega
theorem q_kindOf {b : Nat} (hb : b < 256) {K : Int32 → Prop} (h : K (nI (kd b))) : wX8_kindOf (nI b) K := by
  unfold wX8_kindOf
  unfold kd at h
  simp (disch := omega) only [q_lit, nI_add, pk_mul, q_a1, q_a3, q_a7, q_a31, q_a63, q_a255, q_a511, q_or, q_shr, q_shl, q_le, q_lt, q_eq, q_in, q_cl, q_neg, q_neg', q_nlt0, q_nle, q_nlt, q_nle', q_nlt', forall_eq, true_implies, false_implies, not_true_eq_false, not_false_eq_true, and_true, true_and, Nat.reduceMod, Nat.reducePow, Nat.reduceAdd, Nat.reduceMul, Nat.reduceDiv, Nat.reduceSub, Nat.reduceEqDiff, Nat.reduceLeDiff, Nat.reduceLT]
  by_cases g1 : 97 ≤ b ∧ b ≤ 122
  · rw [if_pos g1] at h
    exact ⟨fun g => absurd g (by omega), fun _ => ⟨fun g => absurd g (by omega), fun _ => h⟩⟩
  · rw [if_neg g1] at h
    by_cases g2 : 48 ≤ b ∧ b ≤ 57
    · rw [if_pos g2] at h
      exact ⟨fun g => ⟨fun g => absurd g (by omega), fun _ => ⟨fun g => absurd g (by omega), fun _ => h⟩⟩, fun g => ⟨fun g => absurd g (by omega), fun _ => absurd g1 (by omega)⟩⟩
    · rw [if_neg g2] at h
      exact ⟨fun g => ⟨fun g => h, fun _ => ⟨fun g => h, fun g => absurd g2 (by omega)⟩⟩, fun g => ⟨fun _ => ⟨fun _ => h, fun _ => ⟨fun _ => h, fun g => absurd g2 (by omega)⟩⟩, fun _ => absurd g1 (by omega)⟩⟩
theorem q_byteAt {tb : Nat → Nat} {z i : Nat} (hz : z ≤ 160) (hi : i < z) {K : Int32 → Prop} (h : K (nI (tb i))) : wX8_byteAt (nI i) (nI z) (fun j => nI (tb j)) K := by
  unfold wX8_byteAt
  simp (disch := omega) only [q_lit, nI_add, pk_mul, q_a1, q_a3, q_a7, q_a31, q_a63, q_a255, q_a511, q_or, q_shr, q_shl, q_le, q_lt, q_eq, q_in, q_cl, q_neg, q_neg', q_nlt0, q_nle, q_nlt, q_nle', q_nlt', forall_eq, true_implies, false_implies, not_true_eq_false, not_false_eq_true, and_true, true_and, Nat.reduceMod, Nat.reducePow, Nat.reduceAdd, Nat.reduceMul, Nat.reduceDiv, Nat.reduceSub, Nat.reduceEqDiff, Nat.reduceLeDiff, Nat.reduceLT]
  exact ⟨fun g => absurd g (by omega), fun _ => ⟨fun g => absurd g (by omega), fun _ => ⟨by omega, h⟩⟩⟩
theorem q_step {tb : Nat → Nat} {z i : Nat} (hz : z ≤ 160) (hb : ∀ j, tb j < 256) (hi : i ≤ z) {s0 : Int32} {K : Int32 → Int32 → Prop} (h : K (nI (tkS tb z i)) (nI (tkE tb z i))) : wX8_step (nI z) s0 (nI i) (fun j => nI (tb j)) K := by
  unfold wX8_step
  intro E hE
  unfold wX8_step_L8
  intro P hP
  have main : E (nI (tkS tb z i)) := by
    have hs := tkS_spec tb hi
    obtain ⟨s, es⟩ : ∃ s, s = tkS tb z i := ⟨_, rfl⟩
    unfold tkE at h
    rw [← es] at h hs ⊢
    refine hE _ ?_
    simp (disch := omega) only [q_lit, nI_add, pk_mul, q_a1, q_a3, q_a7, q_a31, q_a63, q_a255, q_a511, q_or, q_shr, q_shl, q_le, q_lt, q_eq, q_in, q_cl, q_neg, q_neg', q_nlt0, q_nle, q_nlt, q_nle', q_nlt', forall_eq, true_implies, false_implies, not_true_eq_false, not_false_eq_true, and_true, true_and, Nat.reduceMod, Nat.reducePow, Nat.reduceAdd, Nat.reduceMul, Nat.reduceDiv, Nat.reduceSub, Nat.reduceEqDiff, Nat.reduceLeDiff, Nat.reduceLT]
    refine ⟨fun g => ?_, fun g => ?_⟩
    · refine q_byteAt hz g (q_kindOf (hb s) ?_)
      intro E2 hE2
      unfold wX8_step_L87
      intro P2 hP2
      by_cases k0 : kd (tb s) = 0
      · refine hP2 _ ?_
        simp (disch := omega) only [q_lit, nI_add, pk_mul, q_a1, q_a3, q_a7, q_a31, q_a63, q_a255, q_a511, q_or, q_shr, q_shl, q_le, q_lt, q_eq, q_in, q_cl, q_neg, q_neg', q_nlt0, q_nle, q_nlt, q_nle', q_nlt', forall_eq, true_implies, false_implies, not_true_eq_false, not_false_eq_true, and_true, true_and, Nat.reduceMod, Nat.reducePow, Nat.reduceAdd, Nat.reduceMul, Nat.reduceDiv, Nat.reduceSub, Nat.reduceEqDiff, Nat.reduceLeDiff, Nat.reduceLT, k0]
        refine hE2 _ ?_
        unfold tkN at h
        rw [if_neg (by omega), if_pos k0] at h
        exact h
      · have hk := kd_lt (tb s)
        have e2 : tkN tb z s = scan (fun j => kd (tb j) == kd (tb s)) z (s + 1) := by
          unfold tkN; rw [if_neg (by omega), if_neg k0]
        have L : ∀ b, b ≤ z → scan (fun j => kd (tb j) == kd (tb s)) z b = tkN tb z s → P2 (nI b) := by
          refine q_cnt ?_ ?_
          · intro e
            rw [scan_ge (Nat.le_refl z)] at e
            refine hP2 _ ?_
            simp (disch := omega) only [q_lit, nI_add, pk_mul, q_a1, q_a3, q_a7, q_a31, q_a63, q_a255, q_a511, q_or, q_shr, q_shl, q_le, q_lt, q_eq, q_in, q_cl, q_neg, q_neg', q_nlt0, q_nle, q_nlt, q_nle', q_nlt', forall_eq, true_implies, false_implies, not_true_eq_false, not_false_eq_true, and_true, true_and, Nat.reduceMod, Nat.reducePow, Nat.reduceAdd, Nat.reduceMul, Nat.reduceDiv, Nat.reduceSub, Nat.reduceEqDiff, Nat.reduceLeDiff, Nat.reduceLT, k0, Nat.le_refl]
            refine hE2 _ ?_
            rw [e]; exact h
          · intro b hb' ih e
            refine hP2 _ ?_
            simp (disch := omega) only [q_lit, nI_add, pk_mul, q_a1, q_a3, q_a7, q_a31, q_a63, q_a255, q_a511, q_or, q_shr, q_shl, q_le, q_lt, q_eq, q_in, q_cl, q_neg, q_neg', q_nlt0, q_nle, q_nlt, q_nle', q_nlt', forall_eq, true_implies, false_implies, not_true_eq_false, not_false_eq_true, and_true, true_and, Nat.reduceMod, Nat.reducePow, Nat.reduceAdd, Nat.reduceMul, Nat.reduceDiv, Nat.reduceSub, Nat.reduceEqDiff, Nat.reduceLeDiff, Nat.reduceLT, k0]
            refine ⟨fun g => absurd g (by omega), fun _ => q_byteAt hz hb' (q_kindOf (hb b) ?_)⟩
            have := kd_lt (tb b)
            simp (disch := omega) only [q_lit, nI_add, pk_mul, q_a1, q_a3, q_a7, q_a31, q_a63, q_a255, q_a511, q_or, q_shr, q_shl, q_le, q_lt, q_eq, q_in, q_cl, q_neg, q_neg', q_nlt0, q_nle, q_nlt, q_nle', q_nlt', forall_eq, true_implies, false_implies, not_true_eq_false, not_false_eq_true, and_true, true_and, Nat.reduceMod, Nat.reducePow, Nat.reduceAdd, Nat.reduceMul, Nat.reduceDiv, Nat.reduceSub, Nat.reduceEqDiff, Nat.reduceLeDiff, Nat.reduceLT]
            refine ⟨fun g => ih ?_, fun g => hE2 _ ?_⟩
            · rw [← e, scan_t hb' (by simp [g])]
            · rw [scan_f (by simp [g])] at e
              rw [e]; exact h
        exact L (s + 1) (by omega) e2.symm
    · unfold tkN at h
      rw [if_pos (by omega)] at h
      exact h
  have L : ∀ b, b ≤ z → tkS tb z b = tkS tb z i → P (nI b) := by
    refine q_cnt ?_ ?_
    · intro e
      refine hP _ ?_
      simp (disch := omega) only [q_lit, nI_add, pk_mul, q_a1, q_a3, q_a7, q_a31, q_a63, q_a255, q_a511, q_or, q_shr, q_shl, q_le, q_lt, q_eq, q_in, q_cl, q_neg, q_neg', q_nlt0, q_nle, q_nlt, q_nle', q_nlt', forall_eq, true_implies, false_implies, not_true_eq_false, not_false_eq_true, and_true, true_and, Nat.reduceMod, Nat.reducePow, Nat.reduceAdd, Nat.reduceMul, Nat.reduceDiv, Nat.reduceSub, Nat.reduceEqDiff, Nat.reduceLeDiff, Nat.reduceLT, Nat.le_refl]
      unfold tkS at e
      rw [scan_ge (Nat.le_refl z)] at e
      show E (nI z)
      rw [e]; exact main
    · intro b hb' ih e
      refine hP _ ?_
      simp (disch := omega) only [q_lit, nI_add, pk_mul, q_a1, q_a3, q_a7, q_a31, q_a63, q_a255, q_a511, q_or, q_shr, q_shl, q_le, q_lt, q_eq, q_in, q_cl, q_neg, q_neg', q_nlt0, q_nle, q_nlt, q_nle', q_nlt', forall_eq, true_implies, false_implies, not_true_eq_false, not_false_eq_true, and_true, true_and, Nat.reduceMod, Nat.reducePow, Nat.reduceAdd, Nat.reduceMul, Nat.reduceDiv, Nat.reduceSub, Nat.reduceEqDiff, Nat.reduceLeDiff, Nat.reduceLT]
      refine ⟨fun g => absurd g (by omega), fun _ => q_byteAt hz hb' ?_⟩
      have := hb b
      simp (disch := omega) only [q_lit, nI_add, pk_mul, q_a1, q_a3, q_a7, q_a31, q_a63, q_a255, q_a511, q_or, q_shr, q_shl, q_le, q_lt, q_eq, q_in, q_cl, q_neg, q_neg', q_nlt0, q_nle, q_nlt, q_nle', q_nlt', forall_eq, true_implies, false_implies, not_true_eq_false, not_false_eq_true, and_true, true_and, Nat.reduceMod, Nat.reducePow, Nat.reduceAdd, Nat.reduceMul, Nat.reduceDiv, Nat.reduceSub, Nat.reduceEqDiff, Nat.reduceLeDiff, Nat.reduceLT]
      refine ⟨fun g => ih ?_, fun g => ?_⟩
      · rw [← e]; unfold tkS; rw [scan_t (i := b) hb' (by simp [g])]
      · unfold tkS at e
        rw [scan_f (by simp [g])] at e
        show E (nI b)
        rw [e]; exact main
  exact L i hi rfl
theorem q_head {tb : Nat → Nat} {z s : Nat} (hz : z ≤ 160) {K : Int32 → Prop} (h1 : s < z → K (nI (tb s))) (h0 : z ≤ s → K (-nI 1)) (hs : s ≤ 160) : wX8_head (nI z) (nI s) (fun j => nI (tb j)) K := by
  unfold wX8_head
  simp (disch := omega) only [q_lit, nI_add, pk_mul, q_a1, q_a3, q_a7, q_a31, q_a63, q_a255, q_a511, q_or, q_shr, q_shl, q_le, q_lt, q_eq, q_in, q_cl, q_neg, q_neg', q_nlt0, q_nle, q_nlt, q_nle', q_nlt', forall_eq, true_implies, false_implies, not_true_eq_false, not_false_eq_true, and_true, true_and, Nat.reduceMod, Nat.reducePow, Nat.reduceAdd, Nat.reduceMul, Nat.reduceDiv, Nat.reduceSub, Nat.reduceEqDiff, Nat.reduceLeDiff, Nat.reduceLT]
  exact ⟨h0, fun g => q_byteAt hz (by omega) (h1 (by omega))⟩
/-- a token of one digit -/
def isDg (tb : Nat → Nat) (s e : Nat) : Prop := e - s = 1 ∧ kd (tb s) = 2
theorem q_digit {tb : Nat → Nat} {z s e : Nat} (hz : z ≤ 160) (hb : ∀ j, tb j < 256) (hse : s ≤ e) (hez : e ≤ z) {K : Int32 → Prop} (h1 : isDg tb s e → K (nI (tb s - 48))) (h0 : ¬ isDg tb s e → K (-nI 1)) : wX8_digit (nI z) (nI s) (nI e) (fun j => nI (tb j)) K := by
  unfold wX8_digit
  rw [q_subN hse]
  have hk := kd_lt (tb s)
  simp (disch := omega) only [q_lit, nI_add, pk_mul, q_a1, q_a3, q_a7, q_a31, q_a63, q_a255, q_a511, q_or, q_shr, q_shl, q_le, q_lt, q_eq, q_in, q_cl, q_neg, q_neg', q_nlt0, q_nle, q_nlt, q_nle', q_nlt', forall_eq, true_implies, false_implies, not_true_eq_false, not_false_eq_true, and_true, true_and, Nat.reduceMod, Nat.reducePow, Nat.reduceAdd, Nat.reduceMul, Nat.reduceDiv, Nat.reduceSub, Nat.reduceEqDiff, Nat.reduceLeDiff, Nat.reduceLT]
  refine ⟨fun g => q_head hz (fun g1 => q_kindOf (hb s) ?_) (fun g1 => absurd g1 (by omega)) (by omega), fun g => h0 fun d => g d.1⟩
  simp (disch := omega) only [q_lit, nI_add, pk_mul, q_a1, q_a3, q_a7, q_a31, q_a63, q_a255, q_a511, q_or, q_shr, q_shl, q_le, q_lt, q_eq, q_in, q_cl, q_neg, q_neg', q_nlt0, q_nle, q_nlt, q_nle', q_nlt', forall_eq, true_implies, false_implies, not_true_eq_false, not_false_eq_true, and_true, true_and, Nat.reduceMod, Nat.reducePow, Nat.reduceAdd, Nat.reduceMul, Nat.reduceDiv, Nat.reduceSub, Nat.reduceEqDiff, Nat.reduceLeDiff, Nat.reduceLT]
  refine ⟨fun g2 => q_head hz (fun g1 => ?_) (fun g1 => absurd g1 (by omega)) (by omega), fun g2 => h0 fun d => g2 d.2⟩
  have : 48 ≤ tb s := by
    unfold kd at g2
    split at g2
    · omega
    · split at g2 <;> omega
  rw [q_subN this]
  exact h1 ⟨g, g2⟩
/-- a token that is a word -/
def isWd (tb : Nat → Nat) (s e : Nat) (wd : List Nat) : Prop := e - s = wd.length ∧ ∀ i, i < wd.length → tb (s + i) = wd.getD i 0
theorem qs_z0 : ms_z (nI 0) := rfl
theorem qs_z1 : ms_z (nI 1) := rfl
theorem q_isWd {tb : Nat → Nat} {z s e : Nat} (hz : z ≤ 160) (hb : ∀ j, tb j < 256) (hse : s ≤ e) (hez : e ≤ z) {j : Nat} {wd : List Nat} (hl : ms_len.getD j 0 = wd.length) (hl0 : wd.length < 5) (hc : ∀ i, i < wd.length → ms_ch j (nI i) = nI (wd.getD i 0) ∧ wd.getD i 0 < 256) {K : Int32 → Prop} (h1 : isWd tb s e wd → K (nI 1)) (h0 : ¬ isWd tb s e wd → K (nI 0)) : wX8_isWord j (nI z) (nI s) (nI e) (fun j => nI (tb j)) K := by
  unfold wX8_isWord
  rw [hl, q_subN hse]
  simp only [forall_eq]
  intro J hJ
  simp (disch := omega) only [q_lit, nI_add, pk_mul, q_a1, q_a3, q_a7, q_a31, q_a63, q_a255, q_a511, q_or, q_shr, q_shl, q_le, q_lt, q_eq, q_in, q_cl, q_neg, q_neg', q_nlt0, q_nle, q_nlt, q_nle', q_nlt', forall_eq, true_implies, false_implies, not_true_eq_false, not_false_eq_true, and_true, true_and, Nat.reduceMod, Nat.reducePow, Nat.reduceAdd, Nat.reduceMul, Nat.reduceDiv, Nat.reduceSub, Nat.reduceEqDiff, Nat.reduceLeDiff, Nat.reduceLT]
  refine ⟨fun g => hJ _ ?_, fun g => hJ _ ?_⟩
  · intro E hE
    unfold wX8_isWord_L24
    intro P hP
    have bad : ¬ isWd tb s e wd → ∀ x, P (nI 0) x := fun hn x => by
      refine hP _ _ ?_
      simp (disch := omega) only [q_lit, nI_add, pk_mul, q_a1, q_a3, q_a7, q_a31, q_a63, q_a255, q_a511, q_or, q_shr, q_shl, q_le, q_lt, q_eq, q_in, q_cl, q_neg, q_neg', q_nlt0, q_nle, q_nlt, q_nle', q_nlt', forall_eq, true_implies, false_implies, not_true_eq_false, not_false_eq_true, and_true, true_and, Nat.reduceMod, Nat.reducePow, Nat.reduceAdd, Nat.reduceMul, Nat.reduceDiv, Nat.reduceSub, Nat.reduceEqDiff, Nat.reduceLeDiff, Nat.reduceLT]
      exact hE _ _ ⟨qs_z0, h0 hn⟩
    refine q_cnt (Q := fun i => (∀ k, k < i → tb (s + k) = wd.getD k 0) → P (nI 1) (nI i)) (N := wd.length) ?_ ?_ 0 (by omega) (by omega)
    · intro hk
      refine hP _ _ ?_
      rw [hl]
      simp (disch := omega) only [q_lit, nI_add, pk_mul, q_a1, q_a3, q_a7, q_a31, q_a63, q_a255, q_a511, q_or, q_shr, q_shl, q_le, q_lt, q_eq, q_in, q_cl, q_neg, q_neg', q_nlt0, q_nle, q_nlt, q_nle', q_nlt', forall_eq, true_implies, false_implies, not_true_eq_false, not_false_eq_true, and_true, true_and, Nat.reduceMod, Nat.reducePow, Nat.reduceAdd, Nat.reduceMul, Nat.reduceDiv, Nat.reduceSub, Nat.reduceEqDiff, Nat.reduceLeDiff, Nat.reduceLT, Nat.le_refl]
      exact hE _ _ ⟨qs_z1, h1 ⟨g, hk⟩⟩
    · intro i hi ih hk
      refine hP _ _ ?_
      rw [hl]
      simp (disch := omega) only [q_lit, nI_add, pk_mul, q_a1, q_a3, q_a7, q_a31, q_a63, q_a255, q_a511, q_or, q_shr, q_shl, q_le, q_lt, q_eq, q_in, q_cl, q_neg, q_neg', q_nlt0, q_nle, q_nlt, q_nle', q_nlt', forall_eq, true_implies, false_implies, not_true_eq_false, not_false_eq_true, and_true, true_and, Nat.reduceMod, Nat.reducePow, Nat.reduceAdd, Nat.reduceMul, Nat.reduceDiv, Nat.reduceSub, Nat.reduceEqDiff, Nat.reduceLeDiff, Nat.reduceLT]
      refine ⟨fun g' => absurd g' (by omega), fun _ => q_byteAt hz (by omega) ⟨hi, ?_⟩⟩
      obtain ⟨e1, e2⟩ := hc i hi
      have := hb (s + i)
      simp (disch := omega) only [q_lit, nI_add, pk_mul, q_a1, q_a3, q_a7, q_a31, q_a63, q_a255, q_a511, q_or, q_shr, q_shl, q_le, q_lt, q_eq, q_in, q_cl, q_neg, q_neg', q_nlt0, q_nle, q_nlt, q_nle', q_nlt', forall_eq, true_implies, false_implies, not_true_eq_false, not_false_eq_true, and_true, true_and, Nat.reduceMod, Nat.reducePow, Nat.reduceAdd, Nat.reduceMul, Nat.reduceDiv, Nat.reduceSub, Nat.reduceEqDiff, Nat.reduceLeDiff, Nat.reduceLT, e1]
      refine ⟨fun g' => ih fun k hk' => ?_, fun g' => bad (fun hw => g' (hw.2 i hi)) _⟩
      rcases Nat.lt_or_ge k i with g2 | g2
      · exact hk k g2
      · rw [show k = i from by omega]; exact g'
  · intro E hE
    unfold wX8_isWord_L24
    intro P hP
    refine hP _ _ ?_
    simp (disch := omega) only [q_lit, nI_add, pk_mul, q_a1, q_a3, q_a7, q_a31, q_a63, q_a255, q_a511, q_or, q_shr, q_shl, q_le, q_lt, q_eq, q_in, q_cl, q_neg, q_neg', q_nlt0, q_nle, q_nlt, q_nle', q_nlt', forall_eq, true_implies, false_implies, not_true_eq_false, not_false_eq_true, and_true, true_and, Nat.reduceMod, Nat.reducePow, Nat.reduceAdd, Nat.reduceMul, Nat.reduceDiv, Nat.reduceSub, Nat.reduceEqDiff, Nat.reduceLeDiff, Nat.reduceLT]
    exact hE _ _ ⟨qs_z0, h0 fun hw => g hw.1⟩
theorem q_pass1 {tb : Nat → Nat} {z s e : Nat} (hz : z ≤ 160) (hb : ∀ j, tb j < 256) (hez : e ≤ z) {K : Int32 → Int32 → Int32 → Prop} (h : K (nI 1) (nI (tkS tb z e)) (nI (tkE tb z e))) : wX8_pass (nI 1) (nI z) (nI s) (nI e) (fun j => nI (tb j)) K := by
  unfold wX8_pass
  simp (disch := omega) only [q_lit, nI_add, pk_mul, q_a1, q_a3, q_a7, q_a31, q_a63, q_a255, q_a511, q_or, q_shr, q_shl, q_le, q_lt, q_eq, q_in, q_cl, q_neg, q_neg', q_nlt0, q_nle, q_nlt, q_nle', q_nlt', forall_eq, true_implies, false_implies, not_true_eq_false, not_false_eq_true, and_true, true_and, Nat.reduceMod, Nat.reducePow, Nat.reduceAdd, Nat.reduceMul, Nat.reduceDiv, Nat.reduceSub, Nat.reduceEqDiff, Nat.reduceLeDiff, Nat.reduceLT]
  exact q_step hz hb hez ⟨qs_z1, h⟩
theorem q_pass0 {tb : Nat → Nat} {z s e : Nat} {K : Int32 → Int32 → Int32 → Prop} (h : K (nI 0) (nI s) (nI e)) : wX8_pass (nI 0) (nI z) (nI s) (nI e) (fun j => nI (tb j)) K := by
  unfold wX8_pass
  simp (disch := omega) only [q_lit, nI_add, pk_mul, q_a1, q_a3, q_a7, q_a31, q_a63, q_a255, q_a511, q_or, q_shr, q_shl, q_le, q_lt, q_eq, q_in, q_cl, q_neg, q_neg', q_nlt0, q_nle, q_nlt, q_nle', q_nlt', forall_eq, true_implies, false_implies, not_true_eq_false, not_false_eq_true, and_true, true_and, Nat.reduceMod, Nat.reducePow, Nat.reduceAdd, Nat.reduceMul, Nat.reduceDiv, Nat.reduceSub, Nat.reduceEqDiff, Nat.reduceLeDiff, Nat.reduceLT]
  exact ⟨qs_z0, h⟩
def wdTake : List Nat := [116, 97, 107, 101]
def wdNone : List Nat := [110, 111, 110, 101]
def wdTo : List Nat := [116, 111]
def wdPut : List Nat := [112, 117, 116]
/-- the token from i on is a number below lim -/
def isNm (tb : Nat → Nat) (z lim i : Nat) : Prop := isDg tb (tkS tb z i) (tkE tb z i) ∧ tb (tkS tb z i) - 48 < lim
def isWi (tb : Nat → Nat) (z i : Nat) (wd : List Nat) : Prop := isWd tb (tkS tb z i) (tkE tb z i) wd
def isLt (tb : Nat → Nat) (z i : Nat) : Prop := tkE tb z i - tkS tb z i = 1 ∧ 97 ≤ tb (tkS tb z i) ∧ tb (tkS tb z i) < 103
def dgV (tb : Nat → Nat) (z i : Nat) : Nat := tb (tkS tb z i) - 48
/-- a move that is read from i on, n states and m marks: it ends at p, and is from a by slot j to b; or the fault at s -/
def MvOk (tb : Nat → Nat) (z n m i : Nat) (p a c k b : Nat) : Prop :=
  isNm tb z n i ∧ a = dgV tb z i ∧ isLt tb z (tkE tb z i) ∧ c = tb (tkS tb z (tkE tb z i)) - 97 ∧
  ∃ i2, i2 = tkE tb z (tkE tb z i) ∧
  ((c < 4 ∧ isWi tb z i2 wdTo ∧ ∃ i3, i3 = tkE tb z i2 ∧ isNm tb z n i3 ∧ b = dgV tb z i3 ∧ ∃ i4, i4 = tkE tb z i3 ∧
      ((2 ≤ c ∧ k = 1 ∧ p = i4) ∨ (c < 2 ∧ isWi tb z i4 wdPut ∧ ∃ i5, i5 = tkE tb z i4 ∧ isNm tb z m i5 ∧ k = dgV tb z i5 + 1 ∧ p = tkE tb z i5))) ∨
   (4 ≤ c ∧ isWi tb z i2 wdTake ∧ ∃ i3, i3 = tkE tb z i2 ∧ ((isWi tb z i3 wdNone ∧ k = 0) ∨ (¬ isWi tb z i3 wdNone ∧ isNm tb z m i3 ∧ k = dgV tb z i3 + 1)) ∧
      ∃ i4, i4 = tkE tb z i3 ∧ isWi tb z i4 wdTo ∧ ∃ i5, i5 = tkE tb z i4 ∧ isNm tb z n i5 ∧ b = dgV tb z i5 ∧ p = tkE tb z i5))
def MvBadT (tb : Nat → Nat) (z n m c i2 s : Nat) : Prop :=
  (c < 4 ∧ ((¬ isWi tb z i2 wdTo ∧ s = tkS tb z i2) ∨ (isWi tb z i2 wdTo ∧ ∃ i3, i3 = tkE tb z i2 ∧
      ((¬ isNm tb z n i3 ∧ s = tkS tb z i3) ∨ (isNm tb z n i3 ∧ c < 2 ∧ ∃ i4, i4 = tkE tb z i3 ∧
        ((¬ isWi tb z i4 wdPut ∧ s = tkS tb z i4) ∨ (isWi tb z i4 wdPut ∧ ∃ i5, i5 = tkE tb z i4 ∧ ¬ isNm tb z m i5 ∧ s = tkS tb z i5))))))) ∨
   (4 ≤ c ∧ ((¬ isWi tb z i2 wdTake ∧ s = tkS tb z i2) ∨ (isWi tb z i2 wdTake ∧ ∃ i3, i3 = tkE tb z i2 ∧
      ((¬ isWi tb z i3 wdNone ∧ ¬ isNm tb z m i3 ∧ s = tkS tb z i3) ∨ ((isWi tb z i3 wdNone ∨ isNm tb z m i3) ∧ ∃ i4, i4 = tkE tb z i3 ∧
        ((¬ isWi tb z i4 wdTo ∧ s = tkS tb z i4) ∨ (isWi tb z i4 wdTo ∧ ∃ i5, i5 = tkE tb z i4 ∧ ¬ isNm tb z n i5 ∧ s = tkS tb z i5)))))))
def MvBad (tb : Nat → Nat) (z n m i : Nat) (s : Nat) : Prop :=
  (¬ isNm tb z n i ∧ s = tkS tb z i) ∨ (isNm tb z n i ∧ ∃ i1, i1 = tkE tb z i ∧
  ((¬ isLt tb z i1 ∧ s = tkS tb z i1) ∨ (isLt tb z i1 ∧ ∃ c i2, c = tb (tkS tb z i1) - 97 ∧ i2 = tkE tb z i1 ∧ MvBadT tb z n m c i2 s)))
theorem q_wd0 : ms_len.getD 0 0 = wdTake.length ∧ wdTake.length < 5 ∧ ∀ i, i < wdTake.length → ms_ch 0 (nI i) = nI (wdTake.getD i 0) ∧ wdTake.getD i 0 < 256 := by decide +kernel
theorem q_wd1 : ms_len.getD 1 0 = wdNone.length ∧ wdNone.length < 5 ∧ ∀ i, i < wdNone.length → ms_ch 1 (nI i) = nI (wdNone.getD i 0) ∧ wdNone.getD i 0 < 256 := by decide +kernel
theorem q_wd2 : ms_len.getD 2 0 = wdTo.length ∧ wdTo.length < 5 ∧ ∀ i, i < wdTo.length → ms_ch 2 (nI i) = nI (wdTo.getD i 0) ∧ wdTo.getD i 0 < 256 := by decide +kernel
theorem q_wd3 : ms_len.getD 3 0 = wdPut.length ∧ wdPut.length < 5 ∧ ∀ i, i < wdPut.length → ms_ch 3 (nI i) = nI (wdPut.getD i 0) ∧ wdPut.getD i 0 < 256 := by decide +kernel
theorem isDg_lt {tb : Nat → Nat} {s e : Nat} (h : isDg tb s e) : tb s - 48 < 10 := by
  have := h.2
  unfold kd at this
  split at this
  · omega
  · split at this <;> omega
/-- a digit and its test, then on: a number below lim -/
theorem q_num {tb : Nat → Nat} {z i lim : Nat} (hz : z ≤ 160) (hb : ∀ j, tb j < 256) (hi : i ≤ z) (hl : lim ≤ 3) {K : Int32 → Int32 → Int32 → Int32 → Prop}
    (h1 : isNm tb z lim i → K (nI (dgV tb z i)) (nI 1) (nI (tkS tb z (tkE tb z i))) (nI (tkE tb z (tkE tb z i))))
    (h0 : ¬ isNm tb z lim i → ∀ x, K x (nI 0) (nI (tkS tb z i)) (nI (tkE tb z i))) :
    wX8_digit (nI z) (nI (tkS tb z i)) (nI (tkE tb z i)) (fun j => nI (tb j)) (fun r1 => wX5_isState r1 (nI lim) (fun r2 => wX8_pass r2 (nI z) (nI (tkS tb z i)) (nI (tkE tb z i)) (fun j => nI (tb j)) (fun r3 u4 u5 => K r1 r3 u4 u5))) := by
  have hs := tkS_spec tb hi
  have he := tkN_spec tb hs.2
  have he' := tkE_spec tb hi
  refine q_digit hz hb he.1 he'.2 (fun g => ?_) (fun g => ?_)
  · have d10 := isDg_lt g
    refine q_isState hl (fun s hs es => ?_) (fun gs => ?_)
    · rw [q_eq (by omega) (by omega)] at es
      refine q_pass1 hz hb he'.2 (h1 ⟨g, by omega⟩)
    · exact q_pass0 (h0 (fun hn => gs _ hn.2 rfl) _)
  · refine q_isState hl (fun s hs es => ?_) (fun gs => ?_)
    · rw [q_neg' (by omega)] at es; exact es.elim
    · exact q_pass0 (h0 (fun hn => g hn.1) _)
theorem q_word {tb : Nat → Nat} {z i : Nat} (hz : z ≤ 160) (hb : ∀ j, tb j < 256) (hi : i ≤ z) {j : Nat} {wd : List Nat} (hw : ms_len.getD j 0 = wd.length ∧ wd.length < 5 ∧ ∀ i, i < wd.length → ms_ch j (nI i) = nI (wd.getD i 0) ∧ wd.getD i 0 < 256) {K : Int32 → Int32 → Int32 → Prop}
    (h1 : isWi tb z i wd → K (nI 1) (nI (tkS tb z (tkE tb z i))) (nI (tkE tb z (tkE tb z i))))
    (h0 : ¬ isWi tb z i wd → K (nI 0) (nI (tkS tb z i)) (nI (tkE tb z i))) :
    wX8_isWord j (nI z) (nI (tkS tb z i)) (nI (tkE tb z i)) (fun j => nI (tb j)) (fun r1 => wX8_pass r1 (nI z) (nI (tkS tb z i)) (nI (tkE tb z i)) (fun j => nI (tb j)) K) := by
  have hs := tkS_spec tb hi
  have he := tkN_spec tb hs.2
  have he' := tkE_spec tb hi
  exact q_isWd hz hb he.1 he'.2 hw.1 hw.2.1 hw.2.2 (fun g => q_pass1 hz hb he'.2 (h1 g)) (fun g => q_pass0 (h0 g))
theorem q_readMark0 {tb : Nat → Nat} {z i m : Nat} (hz : z ≤ 160) (hb : ∀ j, tb j < 256) (hi : i ≤ z) (hm : m ≤ 2) {mk : Int32} {K : Int32 → Int32 → Int32 → Int32 → Prop}
    (h1 : isNm tb z m i → K (nI 1) (nI (tkS tb z (tkE tb z i))) (nI (tkE tb z (tkE tb z i))) (nI (dgV tb z i)))
    (h0 : ¬ isNm tb z m i → ∀ x, K (nI 0) (nI (tkS tb z i)) (nI (tkE tb z i)) x) :
    wX8_readMark (nI 0) (nI z) (nI (tkS tb z i)) (nI (tkE tb z i)) mk (fun j => nI (tb j)) (nI m) K := by
  unfold wX8_readMark
  simp (disch := omega) only [q_lit, nI_add, pk_mul, q_a1, q_a3, q_a7, q_a31, q_a63, q_a255, q_a511, q_or, q_shr, q_shl, q_le, q_lt, q_eq, q_in, q_cl, q_neg, q_neg', q_nlt0, q_nle, q_nlt, q_nle', q_nlt', forall_eq, true_implies, false_implies, not_true_eq_false, not_false_eq_true, and_true, true_and, Nat.reduceMod, Nat.reducePow, Nat.reduceAdd, Nat.reduceMul, Nat.reduceDiv, Nat.reduceSub, Nat.reduceEqDiff, Nat.reduceLeDiff, Nat.reduceLT]
  exact q_num (K := fun r1 r3 u4 u5 => K r3 u4 u5 r1) hz hb hi (by omega) h1 h0
theorem q_readMark1 {tb : Nat → Nat} {z i m : Nat} (hz : z ≤ 160) (hb : ∀ j, tb j < 256) (hi : i ≤ z) (hm : m ≤ 2) {mk : Int32} {K : Int32 → Int32 → Int32 → Int32 → Prop}
    (hn : isWi tb z i wdNone → K (nI 1) (nI (tkS tb z (tkE tb z i))) (nI (tkE tb z (tkE tb z i))) (-nI 1))
    (h1 : ¬ isWi tb z i wdNone → isNm tb z m i → K (nI 1) (nI (tkS tb z (tkE tb z i))) (nI (tkE tb z (tkE tb z i))) (nI (dgV tb z i)))
    (h0 : ¬ isWi tb z i wdNone → ¬ isNm tb z m i → ∀ x, K (nI 0) (nI (tkS tb z i)) (nI (tkE tb z i)) x) :
    wX8_readMark (nI 1) (nI z) (nI (tkS tb z i)) (nI (tkE tb z i)) mk (fun j => nI (tb j)) (nI m) K := by
  have hs := tkS_spec tb hi
  have he := tkN_spec tb hs.2
  have he' := tkE_spec tb hi
  unfold wX8_readMark
  simp (disch := omega) only [q_lit, nI_add, pk_mul, q_a1, q_a3, q_a7, q_a31, q_a63, q_a255, q_a511, q_or, q_shr, q_shl, q_le, q_lt, q_eq, q_in, q_cl, q_neg, q_neg', q_nlt0, q_nle, q_nlt, q_nle', q_nlt', forall_eq, true_implies, false_implies, not_true_eq_false, not_false_eq_true, and_true, true_and, Nat.reduceMod, Nat.reducePow, Nat.reduceAdd, Nat.reduceMul, Nat.reduceDiv, Nat.reduceSub, Nat.reduceEqDiff, Nat.reduceLeDiff, Nat.reduceLT]
  refine q_isWd hz hb he.1 he'.2 q_wd1.1 q_wd1.2.1 q_wd1.2.2 (fun g => ?_) (fun g => ?_)
  · simp (disch := omega) only [q_lit, nI_add, pk_mul, q_a1, q_a3, q_a7, q_a31, q_a63, q_a255, q_a511, q_or, q_shr, q_shl, q_le, q_lt, q_eq, q_in, q_cl, q_neg, q_neg', q_nlt0, q_nle, q_nlt, q_nle', q_nlt', forall_eq, true_implies, false_implies, not_true_eq_false, not_false_eq_true, and_true, true_and, Nat.reduceMod, Nat.reducePow, Nat.reduceAdd, Nat.reduceMul, Nat.reduceDiv, Nat.reduceSub, Nat.reduceEqDiff, Nat.reduceLeDiff, Nat.reduceLT]
    exact q_pass1 hz hb he'.2 (hn g)
  · simp (disch := omega) only [q_lit, nI_add, pk_mul, q_a1, q_a3, q_a7, q_a31, q_a63, q_a255, q_a511, q_or, q_shr, q_shl, q_le, q_lt, q_eq, q_in, q_cl, q_neg, q_neg', q_nlt0, q_nle, q_nlt, q_nle', q_nlt', forall_eq, true_implies, false_implies, not_true_eq_false, not_false_eq_true, and_true, true_and, Nat.reduceMod, Nat.reducePow, Nat.reduceAdd, Nat.reduceMul, Nat.reduceDiv, Nat.reduceSub, Nat.reduceEqDiff, Nat.reduceLeDiff, Nat.reduceLT]
    exact q_num (K := fun r1 r3 u4 u5 => K r3 u4 u5 r1) hz hb hi (by omega) (h1 g) (h0 g)
theorem isNm_lt {tb : Nat → Nat} {z lim i : Nat} (h : isNm tb z lim i) : dgV tb z i < lim := h.2
theorem q_readMove {tb : Nat → Nat} {z i n m : Nat} (hz : z ≤ 160) (hb : ∀ j, tb j < 256) (hi : i ≤ z) (hn : n ≤ 3) (hm : m ≤ 2) {f l mk t : Int32} {K : Int32 → Int32 → Int32 → Int32 → Int32 → Int32 → Int32 → Prop}
    (h1 : ∀ p a c k b mk', MvOk tb z n m i p a c k b → mk' + nI 1 = nI k → K (nI 1) (nI (tkS tb z p)) (nI (tkE tb z p)) (nI a) (nI c) mk' (nI b))
    (h0 : ∀ s, MvBad tb z n m i s → ∀ e f' l' mk' t', K (nI 0) (nI s) e f' l' mk' t') :
    wX8_readMove (nI z) (nI (tkS tb z i)) (nI (tkE tb z i)) f l mk t (fun j => nI (tb j)) (nI n) (nI m) K := by
  unfold wX8_readMove
  have he0 := (tkE_spec tb hi).2
  have he1 := (tkE_spec tb he0).2
  have he2 := (tkE_spec tb he1).2
  have he3 := (tkE_spec tb he2).2
  have he4 := (tkE_spec tb he3).2
  have he5 := (tkE_spec tb he4).2
  refine q_num (K := fun r1 r3 u4 u5 => _) hz hb hi hn (fun g0 => ?_) (fun g0 x => ?_)
  rotate_left
  · simp (disch := omega) only [q_lit, nI_add, pk_mul, q_a1, q_a3, q_a7, q_a31, q_a63, q_a255, q_a511, q_or, q_shr, q_shl, q_le, q_lt, q_eq, q_in, q_cl, q_neg, q_neg', q_nlt0, q_nle, q_nlt, q_nle', q_nlt', forall_eq, true_implies, false_implies, not_true_eq_false, not_false_eq_true, and_true, true_and, Nat.reduceMod, Nat.reducePow, Nat.reduceAdd, Nat.reduceMul, Nat.reduceDiv, Nat.reduceSub, Nat.reduceEqDiff, Nat.reduceLeDiff, Nat.reduceLT]
    exact h0 _ (.inl ⟨g0, rfl⟩) _ _ _ _ _
  simp (disch := omega) only [q_lit, nI_add, pk_mul, q_a1, q_a3, q_a7, q_a31, q_a63, q_a255, q_a511, q_or, q_shr, q_shl, q_le, q_lt, q_eq, q_in, q_cl, q_neg, q_neg', q_nlt0, q_nle, q_nlt, q_nle', q_nlt', forall_eq, true_implies, false_implies, not_true_eq_false, not_false_eq_true, and_true, true_and, Nat.reduceMod, Nat.reducePow, Nat.reduceAdd, Nat.reduceMul, Nat.reduceDiv, Nat.reduceSub, Nat.reduceEqDiff, Nat.reduceLeDiff, Nat.reduceLT]
  have s1 := tkS_spec tb he0
  have e1 := tkN_spec tb s1.2
  have badL : ¬ isLt tb z (tkE tb z i) → ∀ e f' l' mk' t', K (nI 0) (nI (tkS tb z (tkE tb z i))) e f' l' mk' t' := fun g => h0 _ (.inr ⟨g0, _, rfl, .inl ⟨g, rfl⟩⟩)
  refine q_head hz (fun g1 => ?_) (fun g1 => ?_) (by omega)
  rotate_left
  · intro J hJ
    have ee : tkE tb z (tkE tb z i) = tkS tb z (tkE tb z i) := by
      unfold tkE tkN
      rw [if_pos]
      exact g1
    have hn : ¬ isLt tb z (tkE tb z i) := by
      intro hl
      have := hl.1
      omega
    have J0 : J (nI 0) := hJ _ (q_pass0 (by simp (disch := omega) only [q_lit, nI_add, pk_mul, q_a1, q_a3, q_a7, q_a31, q_a63, q_a255, q_a511, q_or, q_shr, q_shl, q_le, q_lt, q_eq, q_in, q_cl, q_neg, q_neg', q_nlt0, q_nle, q_nlt, q_nle', q_nlt', forall_eq, true_implies, false_implies, not_true_eq_false, not_false_eq_true, and_true, true_and, Nat.reduceMod, Nat.reducePow, Nat.reduceAdd, Nat.reduceMul, Nat.reduceDiv, Nat.reduceSub, Nat.reduceEqDiff, Nat.reduceLeDiff, Nat.reduceLT]; exact badL hn _ _ _ _ _))
    show (_ → _) ∧ (_ → _)
    refine ⟨fun g => ?_, fun _ => J0⟩
    rw [ee, q_subN (Nat.le_refl _)] at g
    exact absurd g (by rw [Nat.sub_self]; decide)
  intro J hJ
  by_cases gl : isLt tb z (tkE tb z i)
  rotate_left
  · have J0 : J (nI 0) := hJ _ (q_pass0 (by simp (disch := omega) only [q_lit, nI_add, pk_mul, q_a1, q_a3, q_a7, q_a31, q_a63, q_a255, q_a511, q_or, q_shr, q_shl, q_le, q_lt, q_eq, q_in, q_cl, q_neg, q_neg', q_nlt0, q_nle, q_nlt, q_nle', q_nlt', forall_eq, true_implies, false_implies, not_true_eq_false, not_false_eq_true, and_true, true_and, Nat.reduceMod, Nat.reducePow, Nat.reduceAdd, Nat.reduceMul, Nat.reduceDiv, Nat.reduceSub, Nat.reduceEqDiff, Nat.reduceLeDiff, Nat.reduceLT]; exact badL gl _ _ _ _ _))
    have hbb := hb (tkS tb z (tkE tb z i))
    show (_ → _) ∧ (_ → _)
    refine ⟨fun g => ⟨fun _ => J0, fun g2 => ⟨fun _ => J0, fun g3 => ?_⟩⟩, fun _ => J0⟩
    exfalso
    have e3 := e1.1
    rw [q_subN (show tkS tb z (tkE tb z i) ≤ tkE tb z (tkE tb z i) from e3), q_eq (by omega) (by omega)] at g
    rcases Nat.lt_or_ge (tb (tkS tb z (tkE tb z i))) 97 with g5 | g5
    · apply g2
      exact pk_sneg (by omega) g5
    · rw [q_subN g5, q_le (by omega) (by omega)] at g3
      exact gl ⟨g, g5, by omega⟩
  have hc : tb (tkS tb z (tkE tb z i)) - 97 < 6 := by have := gl.2.2; omega
  have J1 : J (nI 1) → ((nI (tkE tb z (tkE tb z i)) - nI (tkS tb z (tkE tb z i)) = nI 1 → ((nI (tb (tkS tb z (tkE tb z i))) - nI 97 < nI 0 → J (nI 0)) ∧ (¬ nI (tb (tkS tb z (tkE tb z i))) - nI 97 < nI 0 → ((nI 6 ≤ nI (tb (tkS tb z (tkE tb z i))) - nI 97 → J (nI 0)) ∧ (¬ nI 6 ≤ nI (tb (tkS tb z (tkE tb z i))) - nI 97 → J (nI 1)))))) ∧ (¬ nI (tkE tb z (tkE tb z i)) - nI (tkS tb z (tkE tb z i)) = nI 1 → J (nI 0))) := by
    intro j1
    have e3 : tkS tb z (tkE tb z i) ≤ tkE tb z (tkE tb z i) := e1.1
    rw [q_subN e3, gl.1, q_subN gl.2.1]
    simp (disch := omega) only [q_lit, nI_add, pk_mul, q_a1, q_a3, q_a7, q_a31, q_a63, q_a255, q_a511, q_or, q_shr, q_shl, q_le, q_lt, q_eq, q_in, q_cl, q_neg, q_neg', q_nlt0, q_nle, q_nlt, q_nle', q_nlt', forall_eq, true_implies, false_implies, not_true_eq_false, not_false_eq_true, and_true, true_and, Nat.reduceMod, Nat.reducePow, Nat.reduceAdd, Nat.reduceMul, Nat.reduceDiv, Nat.reduceSub, Nat.reduceEqDiff, Nat.reduceLeDiff, Nat.reduceLT]
    exact ⟨fun g => absurd g (by omega), fun _ => ⟨fun g => absurd g (by omega), fun _ => j1⟩⟩
  refine J1 (hJ _ ?_)
  have e97 : nI (tb (tkS tb z (tkE tb z i))) - nI 97 = nI (tb (tkS tb z (tkE tb z i)) - 97) := q_subN gl.2.1
  rw [e97]
  obtain ⟨c, ec⟩ : ∃ c, c = tb (tkS tb z (tkE tb z i)) - 97 := ⟨_, rfl⟩
  rw [← ec] at hc ⊢
  obtain ⟨i2, ei2⟩ : ∃ x, x = tkE tb z (tkE tb z i) := ⟨_, rfl⟩
  rw [← ei2] at he1 he2 he3 he4 he5
  have bad2 : ∀ s, MvBadT tb z n m c i2 s → MvBad tb z n m i s := fun s H => .inr ⟨g0, _, rfl, .inr ⟨gl, c, i2, ec, ei2, H⟩⟩
  rw [← ei2]
  refine q_pass1 hz hb he1 ?_
  simp (disch := omega) only [q_lit, nI_add, pk_mul, q_a1, q_a3, q_a7, q_a31, q_a63, q_a255, q_a511, q_or, q_shr, q_shl, q_le, q_lt, q_eq, q_in, q_cl, q_neg, q_neg', q_nlt0, q_nle, q_nlt, q_nle', q_nlt', forall_eq, true_implies, false_implies, not_true_eq_false, not_false_eq_true, and_true, true_and, Nat.reduceMod, Nat.reducePow, Nat.reduceAdd, Nat.reduceMul, Nat.reduceDiv, Nat.reduceSub, Nat.reduceEqDiff, Nat.reduceLeDiff, Nat.reduceLT]
  refine q_closes hc ?_
  by_cases c4 : c < 4
  · rw [if_pos c4]
    simp (disch := omega) only [q_lit, nI_add, pk_mul, q_a1, q_a3, q_a7, q_a31, q_a63, q_a255, q_a511, q_or, q_shr, q_shl, q_le, q_lt, q_eq, q_in, q_cl, q_neg, q_neg', q_nlt0, q_nle, q_nlt, q_nle', q_nlt', forall_eq, true_implies, false_implies, not_true_eq_false, not_false_eq_true, and_true, true_and, Nat.reduceMod, Nat.reducePow, Nat.reduceAdd, Nat.reduceMul, Nat.reduceDiv, Nat.reduceSub, Nat.reduceEqDiff, Nat.reduceLeDiff, Nat.reduceLT]
    refine q_word hz hb he1 q_wd2 (fun g2 => ?_) (fun g2 => ?_)
    rotate_left
    · simp (disch := omega) only [q_lit, nI_add, pk_mul, q_a1, q_a3, q_a7, q_a31, q_a63, q_a255, q_a511, q_or, q_shr, q_shl, q_le, q_lt, q_eq, q_in, q_cl, q_neg, q_neg', q_nlt0, q_nle, q_nlt, q_nle', q_nlt', forall_eq, true_implies, false_implies, not_true_eq_false, not_false_eq_true, and_true, true_and, Nat.reduceMod, Nat.reducePow, Nat.reduceAdd, Nat.reduceMul, Nat.reduceDiv, Nat.reduceSub, Nat.reduceEqDiff, Nat.reduceLeDiff, Nat.reduceLT]
      exact h0 _ (bad2 _ (.inl ⟨c4, .inl ⟨g2, rfl⟩⟩)) _ _ _ _ _
    simp (disch := omega) only [q_lit, nI_add, pk_mul, q_a1, q_a3, q_a7, q_a31, q_a63, q_a255, q_a511, q_or, q_shr, q_shl, q_le, q_lt, q_eq, q_in, q_cl, q_neg, q_neg', q_nlt0, q_nle, q_nlt, q_nle', q_nlt', forall_eq, true_implies, false_implies, not_true_eq_false, not_false_eq_true, and_true, true_and, Nat.reduceMod, Nat.reducePow, Nat.reduceAdd, Nat.reduceMul, Nat.reduceDiv, Nat.reduceSub, Nat.reduceEqDiff, Nat.reduceLeDiff, Nat.reduceLT]
    refine q_num (K := fun r1 r3 u4 u5 => _) hz hb he2 hn (fun g3 => ?_) (fun g3 x => ?_)
    rotate_left
    · simp (disch := omega) only [q_lit, nI_add, pk_mul, q_a1, q_a3, q_a7, q_a31, q_a63, q_a255, q_a511, q_or, q_shr, q_shl, q_le, q_lt, q_eq, q_in, q_cl, q_neg, q_neg', q_nlt0, q_nle, q_nlt, q_nle', q_nlt', forall_eq, true_implies, false_implies, not_true_eq_false, not_false_eq_true, and_true, true_and, Nat.reduceMod, Nat.reducePow, Nat.reduceAdd, Nat.reduceMul, Nat.reduceDiv, Nat.reduceSub, Nat.reduceEqDiff, Nat.reduceLeDiff, Nat.reduceLT]
      exact h0 _ (bad2 _ (.inl ⟨c4, .inr ⟨g2, _, rfl, .inl ⟨g3, rfl⟩⟩⟩)) _ _ _ _ _
    simp (disch := omega) only [q_lit, nI_add, pk_mul, q_a1, q_a3, q_a7, q_a31, q_a63, q_a255, q_a511, q_or, q_shr, q_shl, q_le, q_lt, q_eq, q_in, q_cl, q_neg, q_neg', q_nlt0, q_nle, q_nlt, q_nle', q_nlt', forall_eq, true_implies, false_implies, not_true_eq_false, not_false_eq_true, and_true, true_and, Nat.reduceMod, Nat.reducePow, Nat.reduceAdd, Nat.reduceMul, Nat.reduceDiv, Nat.reduceSub, Nat.reduceEqDiff, Nat.reduceLeDiff, Nat.reduceLT]
    refine q_opens hc ?_
    by_cases c2 : c < 2
    · rw [if_pos c2]
      simp (disch := omega) only [q_lit, nI_add, pk_mul, q_a1, q_a3, q_a7, q_a31, q_a63, q_a255, q_a511, q_or, q_shr, q_shl, q_le, q_lt, q_eq, q_in, q_cl, q_neg, q_neg', q_nlt0, q_nle, q_nlt, q_nle', q_nlt', forall_eq, true_implies, false_implies, not_true_eq_false, not_false_eq_true, and_true, true_and, Nat.reduceMod, Nat.reducePow, Nat.reduceAdd, Nat.reduceMul, Nat.reduceDiv, Nat.reduceSub, Nat.reduceEqDiff, Nat.reduceLeDiff, Nat.reduceLT]
      refine q_word hz hb he3 q_wd3 (fun g4 => ?_) (fun g4 => ?_)
      rotate_left
      · simp (disch := omega) only [q_lit, nI_add, pk_mul, q_a1, q_a3, q_a7, q_a31, q_a63, q_a255, q_a511, q_or, q_shr, q_shl, q_le, q_lt, q_eq, q_in, q_cl, q_neg, q_neg', q_nlt0, q_nle, q_nlt, q_nle', q_nlt', forall_eq, true_implies, false_implies, not_true_eq_false, not_false_eq_true, and_true, true_and, Nat.reduceMod, Nat.reducePow, Nat.reduceAdd, Nat.reduceMul, Nat.reduceDiv, Nat.reduceSub, Nat.reduceEqDiff, Nat.reduceLeDiff, Nat.reduceLT]
        exact h0 _ (bad2 _ (.inl ⟨c4, .inr ⟨g2, _, rfl, .inr ⟨g3, c2, _, rfl, .inl ⟨g4, rfl⟩⟩⟩⟩)) _ _ _ _ _
      simp (disch := omega) only [q_lit, nI_add, pk_mul, q_a1, q_a3, q_a7, q_a31, q_a63, q_a255, q_a511, q_or, q_shr, q_shl, q_le, q_lt, q_eq, q_in, q_cl, q_neg, q_neg', q_nlt0, q_nle, q_nlt, q_nle', q_nlt', forall_eq, true_implies, false_implies, not_true_eq_false, not_false_eq_true, and_true, true_and, Nat.reduceMod, Nat.reducePow, Nat.reduceAdd, Nat.reduceMul, Nat.reduceDiv, Nat.reduceSub, Nat.reduceEqDiff, Nat.reduceLeDiff, Nat.reduceLT]
      refine q_readMark0 hz hb he4 hm (fun g5 => ?_) (fun g5 x => ?_)
      rotate_left
      · simp (disch := omega) only [q_lit, nI_add, pk_mul, q_a1, q_a3, q_a7, q_a31, q_a63, q_a255, q_a511, q_or, q_shr, q_shl, q_le, q_lt, q_eq, q_in, q_cl, q_neg, q_neg', q_nlt0, q_nle, q_nlt, q_nle', q_nlt', forall_eq, true_implies, false_implies, not_true_eq_false, not_false_eq_true, and_true, true_and, Nat.reduceMod, Nat.reducePow, Nat.reduceAdd, Nat.reduceMul, Nat.reduceDiv, Nat.reduceSub, Nat.reduceEqDiff, Nat.reduceLeDiff, Nat.reduceLT]
        exact h0 _ (bad2 _ (.inl ⟨c4, .inr ⟨g2, _, rfl, .inr ⟨g3, c2, _, rfl, .inr ⟨g4, _, rfl, g5, rfl⟩⟩⟩⟩)) _ _ _ _ _
      simp (disch := omega) only [q_lit, nI_add, pk_mul, q_a1, q_a3, q_a7, q_a31, q_a63, q_a255, q_a511, q_or, q_shr, q_shl, q_le, q_lt, q_eq, q_in, q_cl, q_neg, q_neg', q_nlt0, q_nle, q_nlt, q_nle', q_nlt', forall_eq, true_implies, false_implies, not_true_eq_false, not_false_eq_true, and_true, true_and, Nat.reduceMod, Nat.reducePow, Nat.reduceAdd, Nat.reduceMul, Nat.reduceDiv, Nat.reduceSub, Nat.reduceEqDiff, Nat.reduceLeDiff, Nat.reduceLT]
      exact h1 _ _ _ _ _ _ ⟨g0, rfl, gl, ec, i2, ei2, .inl ⟨c4, g2, _, rfl, g3, rfl, _, rfl, .inr ⟨c2, g4, _, rfl, g5, rfl, rfl⟩⟩⟩ (nI_1 _)
    · rw [if_neg c2]
      simp (disch := omega) only [q_lit, nI_add, pk_mul, q_a1, q_a3, q_a7, q_a31, q_a63, q_a255, q_a511, q_or, q_shr, q_shl, q_le, q_lt, q_eq, q_in, q_cl, q_neg, q_neg', q_nlt0, q_nle, q_nlt, q_nle', q_nlt', forall_eq, true_implies, false_implies, not_true_eq_false, not_false_eq_true, and_true, true_and, Nat.reduceMod, Nat.reducePow, Nat.reduceAdd, Nat.reduceMul, Nat.reduceDiv, Nat.reduceSub, Nat.reduceEqDiff, Nat.reduceLeDiff, Nat.reduceLT]
      exact h1 _ _ _ _ _ _ ⟨g0, rfl, gl, ec, i2, ei2, .inl ⟨c4, g2, _, rfl, g3, rfl, _, rfl, .inl ⟨by omega, rfl, rfl⟩⟩⟩ rfl
  · rw [if_neg c4]
    simp (disch := omega) only [q_lit, nI_add, pk_mul, q_a1, q_a3, q_a7, q_a31, q_a63, q_a255, q_a511, q_or, q_shr, q_shl, q_le, q_lt, q_eq, q_in, q_cl, q_neg, q_neg', q_nlt0, q_nle, q_nlt, q_nle', q_nlt', forall_eq, true_implies, false_implies, not_true_eq_false, not_false_eq_true, and_true, true_and, Nat.reduceMod, Nat.reducePow, Nat.reduceAdd, Nat.reduceMul, Nat.reduceDiv, Nat.reduceSub, Nat.reduceEqDiff, Nat.reduceLeDiff, Nat.reduceLT]
    refine q_word hz hb he1 q_wd0 (fun g2 => ?_) (fun g2 => ?_)
    rotate_left
    · simp (disch := omega) only [q_lit, nI_add, pk_mul, q_a1, q_a3, q_a7, q_a31, q_a63, q_a255, q_a511, q_or, q_shr, q_shl, q_le, q_lt, q_eq, q_in, q_cl, q_neg, q_neg', q_nlt0, q_nle, q_nlt, q_nle', q_nlt', forall_eq, true_implies, false_implies, not_true_eq_false, not_false_eq_true, and_true, true_and, Nat.reduceMod, Nat.reducePow, Nat.reduceAdd, Nat.reduceMul, Nat.reduceDiv, Nat.reduceSub, Nat.reduceEqDiff, Nat.reduceLeDiff, Nat.reduceLT]
      exact h0 _ (bad2 _ (.inr ⟨by omega, .inl ⟨g2, rfl⟩⟩)) _ _ _ _ _
    simp (disch := omega) only [q_lit, nI_add, pk_mul, q_a1, q_a3, q_a7, q_a31, q_a63, q_a255, q_a511, q_or, q_shr, q_shl, q_le, q_lt, q_eq, q_in, q_cl, q_neg, q_neg', q_nlt0, q_nle, q_nlt, q_nle', q_nlt', forall_eq, true_implies, false_implies, not_true_eq_false, not_false_eq_true, and_true, true_and, Nat.reduceMod, Nat.reducePow, Nat.reduceAdd, Nat.reduceMul, Nat.reduceDiv, Nat.reduceSub, Nat.reduceEqDiff, Nat.reduceLeDiff, Nat.reduceLT]
    refine q_readMark1 hz hb he2 hm (fun gn => ?_) (fun gn g3 => ?_) (fun gn g3 x => ?_)
    · simp (disch := omega) only [q_lit, nI_add, pk_mul, q_a1, q_a3, q_a7, q_a31, q_a63, q_a255, q_a511, q_or, q_shr, q_shl, q_le, q_lt, q_eq, q_in, q_cl, q_neg, q_neg', q_nlt0, q_nle, q_nlt, q_nle', q_nlt', forall_eq, true_implies, false_implies, not_true_eq_false, not_false_eq_true, and_true, true_and, Nat.reduceMod, Nat.reducePow, Nat.reduceAdd, Nat.reduceMul, Nat.reduceDiv, Nat.reduceSub, Nat.reduceEqDiff, Nat.reduceLeDiff, Nat.reduceLT]
      refine q_word hz hb he3 q_wd2 (fun g4 => ?_) (fun g4 => ?_)
      rotate_left
      · simp (disch := omega) only [q_lit, nI_add, pk_mul, q_a1, q_a3, q_a7, q_a31, q_a63, q_a255, q_a511, q_or, q_shr, q_shl, q_le, q_lt, q_eq, q_in, q_cl, q_neg, q_neg', q_nlt0, q_nle, q_nlt, q_nle', q_nlt', forall_eq, true_implies, false_implies, not_true_eq_false, not_false_eq_true, and_true, true_and, Nat.reduceMod, Nat.reducePow, Nat.reduceAdd, Nat.reduceMul, Nat.reduceDiv, Nat.reduceSub, Nat.reduceEqDiff, Nat.reduceLeDiff, Nat.reduceLT]
        exact h0 _ (bad2 _ (.inr ⟨by omega, .inr ⟨g2, _, rfl, .inr ⟨.inl gn, _, rfl, .inl ⟨g4, rfl⟩⟩⟩⟩)) _ _ _ _ _
      simp (disch := omega) only [q_lit, nI_add, pk_mul, q_a1, q_a3, q_a7, q_a31, q_a63, q_a255, q_a511, q_or, q_shr, q_shl, q_le, q_lt, q_eq, q_in, q_cl, q_neg, q_neg', q_nlt0, q_nle, q_nlt, q_nle', q_nlt', forall_eq, true_implies, false_implies, not_true_eq_false, not_false_eq_true, and_true, true_and, Nat.reduceMod, Nat.reducePow, Nat.reduceAdd, Nat.reduceMul, Nat.reduceDiv, Nat.reduceSub, Nat.reduceEqDiff, Nat.reduceLeDiff, Nat.reduceLT]
      refine q_num (K := fun r1 r3 u4 u5 => _) hz hb he4 hn (fun g5 => ?_) (fun g5 x => ?_)
      rotate_left
      · simp (disch := omega) only [q_lit, nI_add, pk_mul, q_a1, q_a3, q_a7, q_a31, q_a63, q_a255, q_a511, q_or, q_shr, q_shl, q_le, q_lt, q_eq, q_in, q_cl, q_neg, q_neg', q_nlt0, q_nle, q_nlt, q_nle', q_nlt', forall_eq, true_implies, false_implies, not_true_eq_false, not_false_eq_true, and_true, true_and, Nat.reduceMod, Nat.reducePow, Nat.reduceAdd, Nat.reduceMul, Nat.reduceDiv, Nat.reduceSub, Nat.reduceEqDiff, Nat.reduceLeDiff, Nat.reduceLT]
        exact h0 _ (bad2 _ (.inr ⟨by omega, .inr ⟨g2, _, rfl, .inr ⟨.inl gn, _, rfl, .inr ⟨g4, _, rfl, g5, rfl⟩⟩⟩⟩)) _ _ _ _ _
      simp (disch := omega) only [q_lit, nI_add, pk_mul, q_a1, q_a3, q_a7, q_a31, q_a63, q_a255, q_a511, q_or, q_shr, q_shl, q_le, q_lt, q_eq, q_in, q_cl, q_neg, q_neg', q_nlt0, q_nle, q_nlt, q_nle', q_nlt', forall_eq, true_implies, false_implies, not_true_eq_false, not_false_eq_true, and_true, true_and, Nat.reduceMod, Nat.reducePow, Nat.reduceAdd, Nat.reduceMul, Nat.reduceDiv, Nat.reduceSub, Nat.reduceEqDiff, Nat.reduceLeDiff, Nat.reduceLT]
      refine q_opens hc ?_
      rw [if_neg (by omega)]
      simp (disch := omega) only [q_lit, nI_add, pk_mul, q_a1, q_a3, q_a7, q_a31, q_a63, q_a255, q_a511, q_or, q_shr, q_shl, q_le, q_lt, q_eq, q_in, q_cl, q_neg, q_neg', q_nlt0, q_nle, q_nlt, q_nle', q_nlt', forall_eq, true_implies, false_implies, not_true_eq_false, not_false_eq_true, and_true, true_and, Nat.reduceMod, Nat.reducePow, Nat.reduceAdd, Nat.reduceMul, Nat.reduceDiv, Nat.reduceSub, Nat.reduceEqDiff, Nat.reduceLeDiff, Nat.reduceLT]
      exact h1 _ _ _ _ _ _ ⟨g0, rfl, gl, ec, i2, ei2, .inr ⟨by omega, g2, _, rfl, .inl ⟨gn, rfl⟩, _, rfl, g4, _, rfl, g5, rfl, rfl⟩⟩ (by decide)
    · simp (disch := omega) only [q_lit, nI_add, pk_mul, q_a1, q_a3, q_a7, q_a31, q_a63, q_a255, q_a511, q_or, q_shr, q_shl, q_le, q_lt, q_eq, q_in, q_cl, q_neg, q_neg', q_nlt0, q_nle, q_nlt, q_nle', q_nlt', forall_eq, true_implies, false_implies, not_true_eq_false, not_false_eq_true, and_true, true_and, Nat.reduceMod, Nat.reducePow, Nat.reduceAdd, Nat.reduceMul, Nat.reduceDiv, Nat.reduceSub, Nat.reduceEqDiff, Nat.reduceLeDiff, Nat.reduceLT]
      refine q_word hz hb he3 q_wd2 (fun g4 => ?_) (fun g4 => ?_)
      rotate_left
      · simp (disch := omega) only [q_lit, nI_add, pk_mul, q_a1, q_a3, q_a7, q_a31, q_a63, q_a255, q_a511, q_or, q_shr, q_shl, q_le, q_lt, q_eq, q_in, q_cl, q_neg, q_neg', q_nlt0, q_nle, q_nlt, q_nle', q_nlt', forall_eq, true_implies, false_implies, not_true_eq_false, not_false_eq_true, and_true, true_and, Nat.reduceMod, Nat.reducePow, Nat.reduceAdd, Nat.reduceMul, Nat.reduceDiv, Nat.reduceSub, Nat.reduceEqDiff, Nat.reduceLeDiff, Nat.reduceLT]
        exact h0 _ (bad2 _ (.inr ⟨by omega, .inr ⟨g2, _, rfl, .inr ⟨.inr g3, _, rfl, .inl ⟨g4, rfl⟩⟩⟩⟩)) _ _ _ _ _
      simp (disch := omega) only [q_lit, nI_add, pk_mul, q_a1, q_a3, q_a7, q_a31, q_a63, q_a255, q_a511, q_or, q_shr, q_shl, q_le, q_lt, q_eq, q_in, q_cl, q_neg, q_neg', q_nlt0, q_nle, q_nlt, q_nle', q_nlt', forall_eq, true_implies, false_implies, not_true_eq_false, not_false_eq_true, and_true, true_and, Nat.reduceMod, Nat.reducePow, Nat.reduceAdd, Nat.reduceMul, Nat.reduceDiv, Nat.reduceSub, Nat.reduceEqDiff, Nat.reduceLeDiff, Nat.reduceLT]
      refine q_num (K := fun r1 r3 u4 u5 => _) hz hb he4 hn (fun g5 => ?_) (fun g5 x => ?_)
      rotate_left
      · simp (disch := omega) only [q_lit, nI_add, pk_mul, q_a1, q_a3, q_a7, q_a31, q_a63, q_a255, q_a511, q_or, q_shr, q_shl, q_le, q_lt, q_eq, q_in, q_cl, q_neg, q_neg', q_nlt0, q_nle, q_nlt, q_nle', q_nlt', forall_eq, true_implies, false_implies, not_true_eq_false, not_false_eq_true, and_true, true_and, Nat.reduceMod, Nat.reducePow, Nat.reduceAdd, Nat.reduceMul, Nat.reduceDiv, Nat.reduceSub, Nat.reduceEqDiff, Nat.reduceLeDiff, Nat.reduceLT]
        exact h0 _ (bad2 _ (.inr ⟨by omega, .inr ⟨g2, _, rfl, .inr ⟨.inr g3, _, rfl, .inr ⟨g4, _, rfl, g5, rfl⟩⟩⟩⟩)) _ _ _ _ _
      simp (disch := omega) only [q_lit, nI_add, pk_mul, q_a1, q_a3, q_a7, q_a31, q_a63, q_a255, q_a511, q_or, q_shr, q_shl, q_le, q_lt, q_eq, q_in, q_cl, q_neg, q_neg', q_nlt0, q_nle, q_nlt, q_nle', q_nlt', forall_eq, true_implies, false_implies, not_true_eq_false, not_false_eq_true, and_true, true_and, Nat.reduceMod, Nat.reducePow, Nat.reduceAdd, Nat.reduceMul, Nat.reduceDiv, Nat.reduceSub, Nat.reduceEqDiff, Nat.reduceLeDiff, Nat.reduceLT]
      refine q_opens hc ?_
      rw [if_neg (by omega)]
      simp (disch := omega) only [q_lit, nI_add, pk_mul, q_a1, q_a3, q_a7, q_a31, q_a63, q_a255, q_a511, q_or, q_shr, q_shl, q_le, q_lt, q_eq, q_in, q_cl, q_neg, q_neg', q_nlt0, q_nle, q_nlt, q_nle', q_nlt', forall_eq, true_implies, false_implies, not_true_eq_false, not_false_eq_true, and_true, true_and, Nat.reduceMod, Nat.reducePow, Nat.reduceAdd, Nat.reduceMul, Nat.reduceDiv, Nat.reduceSub, Nat.reduceEqDiff, Nat.reduceLeDiff, Nat.reduceLT]
      exact h1 _ _ _ _ _ _ ⟨g0, rfl, gl, ec, i2, ei2, .inr ⟨by omega, g2, _, rfl, .inr ⟨gn, g3, rfl⟩, _, rfl, g4, _, rfl, g5, rfl, rfl⟩⟩ (nI_1 _)
    · simp (disch := omega) only [q_lit, nI_add, pk_mul, q_a1, q_a3, q_a7, q_a31, q_a63, q_a255, q_a511, q_or, q_shr, q_shl, q_le, q_lt, q_eq, q_in, q_cl, q_neg, q_neg', q_nlt0, q_nle, q_nlt, q_nle', q_nlt', forall_eq, true_implies, false_implies, not_true_eq_false, not_false_eq_true, and_true, true_and, Nat.reduceMod, Nat.reducePow, Nat.reduceAdd, Nat.reduceMul, Nat.reduceDiv, Nat.reduceSub, Nat.reduceEqDiff, Nat.reduceLeDiff, Nat.reduceLT]
      exact h0 _ (bad2 _ (.inr ⟨by omega, .inr ⟨g2, _, rfl, .inl ⟨gn, g3, rfl⟩⟩⟩)) _ _ _ _ _
