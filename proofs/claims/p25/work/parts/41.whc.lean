/-- where a pair's search begins -/
def hbI (p : Nat) : Int32 := (nI p * nI 40503) >>> nI 5
def hb (p : Nat) : Nat := (hbI p).toBitVec.toNat % 256
theorem hb_at (p i : Nat) : (hbI p + nI i) &&& nI 255 = nI ((hb p + i) % 256) := by
  rw [show nI 255 = (255 : Int32) from rfl, pk_and (hbI p + nI i) (m := 255) 8 (by decide)]
  congr 1
  unfold hb
  rw [Int32.toBitVec_add, BitVec.toNat_add, show (nI i).toBitVec = BitVec.ofNat 32 i from rfl, BitVec.toNat_ofNat]
  omega
/-- the class's table of numbers: each pair of pr stands on its way, no place on it is free ahead -/
def HI (sz : Nat) (pr : Nat → Nat) (sl : Nat → Int32) (sv : Nat → Nat) : Prop :=
  (∀ s, s < 256 → sl s = nI (sv s) ∧ sv s ≤ sz) ∧ (∀ s s', s < 256 → s' < 256 → sv s = sv s' → sv s ≠ 0 → s = s') ∧
  (∀ i, i < sz → ∃ d, d < 256 ∧ sv ((hb (pr i) + d) % 256) = i + 1 ∧ ∀ d', d' < d → sv ((hb (pr i) + d') % 256) ≠ 0)
theorem q_slotOf {sz : Nat} {pr : Nat → Nat} {pa sl : Nat → Int32} {sv : Nat → Nat} (hz : sz ≤ 60) (hpa : ∀ i, i < sz → pa i = nI (pr i)) (hp : ∀ i, i < sz → pr i < 262144) (H : HI sz pr sl sv) {p : Nat} (hp2 : p < 262144) {K : Int32 → Prop}
    (h1 : ∀ s i, s < 256 → i < sz → sv s = i + 1 → pr i = p → K (nI s))
    (h0 : ∀ d, d < 256 → sv ((hb p + d) % 256) = 0 → (∀ d', d' < d → sv ((hb p + d') % 256) ≠ 0) → (∀ i, i < sz → pr i ≠ p) → K (nI ((hb p + d) % 256))) : wX10_slotOf (nI p) pa sl K := by
  obtain ⟨H1, H2, H3⟩ := H
  unfold wX10_slotOf
  simp only [q_lit, q_a31, Nat.reduceMod, forall_eq]
  rw [show (nI p * nI 40503) >>> nI 5 = hbI p from rfl]
  unfold wX10_slotOf_L9
  intro P hP
  refine q_cnt0 (Q := fun d => (∀ d', d' < d → sv ((hb p + d') % 256) ≠ 0 ∧ pr (sv ((hb p + d') % 256) - 1) ≠ p) → P (nI d)) 256 ?_ ?_ (fun d' h => absurd h (by omega))
  · intro hall
    exfalso
    have nz : ∀ s, s < 256 → sv s ≠ 0 := fun s hs => by
      have := (hall ((s + 256 - hb p % 256) % 256) (by omega)).1
      rwa [show (hb p + (s + 256 - hb p % 256) % 256) % 256 = s from by omega] at this
    obtain ⟨i, j, hij, hj, e⟩ := pig 60 (fun s => sv s - 1) (fun s hs => by
      have := nz s (by omega); have := (H1 s (by omega)).2; omega)
    have a := nz i (by omega); have b := nz j (by omega)
    have := H2 i j (by omega) (by omega) (by omega) a
    omega
  · intro d hd ih hall
    refine hP _ ?_
    have hs : (hb p + d) % 256 < 256 := Nat.mod_lt _ (by omega)
    obtain ⟨e1, e2⟩ := H1 _ hs
    simp (disch := omega) only [q_lit, q_le, hb_at, forall_eq, q_in, q_cl, e1]
    rw [q_eq (by omega) (by omega)]
    refine ⟨fun g => absurd g (by omega), fun _ => ⟨hs, fun g => ?_, fun g => ⟨hs, ?_⟩⟩⟩
    · refine h0 d hd g (fun d' hd' => (hall d' hd').1) (fun i hi e => ?_)
      obtain ⟨d2, hd2, f1, f2⟩ := H3 i hi
      rw [e] at f1 f2
      rcases Nat.lt_trichotomy d d2 with l | l | l
      · exact f2 d l g
      · rw [l] at g; omega
      · have := (hall d2 l).2
        rw [f1, Nat.add_sub_cancel] at this
        exact this e
    · have hsz : sv ((hb p + d) % 256) - 1 < sz := by omega
      rw [q_subN (by omega), q_in (by omega), q_cl (by omega), hpa _ hsz]
      have := hp _ hsz
      rw [q_eq (by omega) (by omega)]
      refine ⟨by omega, fun g2 => h1 _ _ hs hsz (by omega) g2, fun g2 => ?_⟩
      rw [nI_add]
      refine ih fun d' hd' => ?_
      rcases Nat.lt_or_ge d' d with l | l
      · exact hall d' l
      · rw [show d' = d from by omega]; exact ⟨g, g2⟩
/-- what has been found so far: sz pairs pr, of these st are steps (step j is the pair wo j) -/
def WI (y : Sy) (sz st : Nat) (pr wo : Nat → Nat) (pa so wa sl : Nat → Int32) : Prop :=
  sz ≤ 60 ∧ (∀ i, i < sz → pa i = nI (pr i) ∧ WS y (pr i)) ∧ (∀ i j, i < sz → j < sz → pr i = pr j → i = j) ∧ (∃ sv, HI sz pr sl sv) ∧
  (∀ j, j < st → wa j = nI (wo j) ∧ wo j < sz ∧ stpS y (WS y) (pr (wo j))) ∧ (∀ i j, i < st → j < st → wo i = wo j → i = j) ∧
  (∀ i, i < sz → (∃ j, j < st ∧ so i = nI j ∧ wo j = i) ∨ (so i = -nI 1 ∧ ∀ j, j < st → wo j ≠ i))
theorem WI_st {y : Sy} {sz st : Nat} {pr wo : Nat → Nat} {pa so wa sl : Nat → Int32} (H : WI y sz st pr wo pa so wa sl) : st ≤ sz :=
  inj_le (S := fun x => x < sz) (f := wo) (g := id) (fun i hi => (H.2.2.2.2.1 i hi).2.1) H.2.2.2.2.2.1 (fun x hx => ⟨x, hx, rfl⟩)
theorem WI_st1 {y : Sy} {sz st : Nat} {pr wo : Nat → Nat} {pa so wa sl : Nat → Int32} (H : WI y sz st pr wo pa so wa sl) {i : Nat} (hi : i < sz) (hn : ∀ j, j < st → wo j ≠ i) : st + 1 ≤ sz :=
  inj_le (S := fun x => x < sz) (f := fun j => if j = st then i else wo j) (g := id) (fun j hj => by
    split
    · exact hi
    · exact (H.2.2.2.2.1 j (by omega)).2.1) (fun a b ha hb e => by
    split at e <;> split at e
    · omega
    · exact absurd e.symm (hn b (by omega))
    · exact absurd e (hn a (by omega))
    · exact H.2.2.2.2.2.1 a b (by omega) (by omega) e) (fun x hx => ⟨x, hx, rfl⟩)
def SpB (y : Sy) (sp : Int32) : Prop := sp = nI 0 ∨ (sp = nI 1 ∧ Big (WS y))
/-- pr' goes on where pr ends -/
def Ext (n : Nat) (f f' : Nat → Nat) : Prop := ∀ i, i < n → f' i = f i
theorem WI_pr {y : Sy} (hy : SyOk y) {sz st : Nat} {pr wo : Nat → Nat} {pa so wa sl : Nat → Int32} (H : WI y sz st pr wo pa so wa sl) {i : Nat} (hi : i < sz) : pr i < 262144 := (WS_R2 hy (H.2.1 i hi).2).1
theorem q_numberOf {y : Sy} (hy : SyOk y) {sz st : Nat} {pr wo : Nat → Nat} {pa so wa sl : Nat → Int32} (H : WI y sz st pr wo pa so wa sl) {sp : Int32} (hsp : SpB y sp) {p : Nat} (hp : WS y p) {K : Int32 → Int32 → Int32 → (Nat → Int32) → (Nat → Int32) → (Nat → Int32) → Prop}
    (h : ∀ i sz' pr' sp' pa' so' sl', i < 60 → WI y sz' st pr' wo pa' so' wa sl' → sz ≤ sz' → sz' ≤ sz + 1 → Ext sz pr pr' → SpB y sp' → (sp' = nI 0 → sp = nI 0 ∧ i < sz' ∧ pr' i = p) → K (nI i) (nI sz') sp' pa' so' sl') : wX10_numberOf (nI p) (nI sz) sp pa so sl K := by
  obtain ⟨hz, hpa, hinj, ⟨sv, hH⟩, hwa, hwinj, hso⟩ := id H
  have hp2 := (WS_R2 hy hp).1
  unfold wX10_numberOf
  refine q_slotOf hz (fun i hi => (hpa i hi).1) (fun i hi => WI_pr hy H hi) hH hp2 (fun s i hs hi e1 e2 => ?_) (fun d hd e0 hd' hno => ?_)
  · simp (disch := omega) only [q_lit, q_lt, q_in, q_cl, (hH.1 s hs).1, e1]
    rw [q_le (by omega) (by omega), q_subN (by omega), Nat.add_sub_cancel]
    refine ⟨fun g => absurd g (by omega), fun _ => ⟨hs, fun g => absurd g (by omega), fun _ => ⟨hs, ?_⟩⟩⟩
    exact h i sz pr sp pa so sl (by omega) H (Nat.le_refl _) (by omega) (fun _ _ => rfl) hsp (fun g => ⟨g, hi, e2⟩)
  · obtain ⟨s, es⟩ : ∃ s, s = (hb p + d) % 256 := ⟨_, rfl⟩
    have hs : s < 256 := by rw [es]; exact Nat.mod_lt _ (by omega)
    rw [← es] at e0 ⊢
    simp (disch := omega) only [q_lit, q_lt, q_in, q_cl, (hH.1 s hs).1, e0]
    rw [q_le (by omega) (by omega)]
    refine ⟨fun g => absurd g (by omega), fun _ => ⟨hs, fun _ => ⟨fun g => absurd g (by omega), fun _ => ⟨fun g => ?_, fun g => ?_⟩⟩, fun g => absurd (Nat.le_refl 0) g⟩⟩
    · simp (disch := omega) only [forall_eq, nI_add]
      refine ⟨by omega, by omega, hs, ?_⟩
      rw [q_subN (by omega), Nat.add_sub_cancel]
      refine h sz (sz + 1) (updN pr sz p) sp _ _ _ (by omega) ⟨by omega, ?_, ?_, ⟨updN sv s (sz + 1), ?_, ?_, ?_⟩, ?_, hwinj, ?_⟩ (by omega) (Nat.le_refl _) (fun i hi => updN_n (by omega)) hsp (fun g => ⟨g, by omega, updN_s _ _ _⟩)
      · intro i hi
        rw [q_ap]
        unfold updN
        split
        · exact ⟨rfl, hp⟩
        · exact hpa i (by omega)
      · intro i j hi hj e
        unfold updN at e
        split at e <;> split at e
        · omega
        · exact absurd e.symm (hno j (by omega))
        · exact absurd e (hno i (by omega))
        · exact hinj i j (by omega) (by omega) e
      · intro s' hs'
        rw [q_ap]
        unfold updN
        split
        · exact ⟨rfl, Nat.le_refl _⟩
        · have := hH.1 s' hs'; exact ⟨this.1, by omega⟩
      · intro a b ha hb' e ne
        unfold updN at e ne
        split at e <;> split at e
        · omega
        · have := (hH.1 b hb').2; omega
        · have := (hH.1 a ha).2; omega
        · rename_i g1 g2; rw [if_neg g1] at ne; exact hH.2.1 a b ha hb' e ne
      · intro i hi
        by_cases g1 : i = sz
        · subst g1
          refine ⟨d, hd, ?_, fun d' hd'' => ?_⟩
          · rw [updN_s, ← es, updN_s]
          · rw [updN_s]
            unfold updN
            split
            · omega
            · exact hd' d' hd''
        · rw [updN_n g1]
          obtain ⟨d2, hd2, f1, f2⟩ := hH.2.2 i (by omega)
          refine ⟨d2, hd2, ?_, fun d' hd'' => ?_⟩
          · rw [updN_n]
            · exact f1
            · intro e; rw [e, e0] at f1; omega
          · unfold updN
            split
            · omega
            · exact f2 d' hd''
      · intro j hj
        obtain ⟨a, b, c⟩ := hwa j hj
        exact ⟨a, by omega, by rw [updN_n (by omega)]; exact c⟩
      · intro i hi
        rw [q_ap]
        by_cases g1 : i = sz
        · rw [if_pos g1]; exact .inr ⟨rfl, fun j hj e => by have := (hwa j hj).2.1; omega⟩
        · rw [if_neg g1]; exact hso i (by omega)
    · refine h 0 sz pr (nI 1) pa so sl (by omega) H (Nat.le_refl _) (by omega) (fun _ _ => rfl) (.inr ⟨rfl, fun i => if i = 60 then p else pr i, fun i hi => ?_, fun i j hi hj e => ?_⟩) (fun e => absurd e (by decide))
      · show WS y (if i = 60 then p else pr i)
        split
        · exact hp
        · exact (hpa i (by omega)).2
      · simp only at e
        split at e <;> split at e
        · omega
        · exact absurd e.symm (hno j (by omega))
        · exact absurd e (hno i (by omega))
        · exact hinj i j (by omega) (by omega) e
theorem WI_ext {y : Sy} {sz st : Nat} {pr wo : Nat → Nat} {pa so wa sl : Nat → Int32} (H : WI y sz st pr wo pa so wa sl) {sz' : Nat} {pr' : Nat → Nat} (hx : Ext sz pr pr') {j : Nat} (hj : j < st) : pr' (wo j) = pr (wo j) := hx _ (H.2.2.2.2.1 j hj).2.1
theorem q_stepFor {y : Sy} (hy : SyOk y) {sz st : Nat} {pr wo : Nat → Nat} {pa so wa sl : Nat → Int32} (H : WI y sz st pr wo pa so wa sl) {sp : Int32} (hsp : SpB y sp) {p : Nat} (hp : stpS y (WS y) p) {K : Int32 → Int32 → Int32 → Int32 → (Nat → Int32) → (Nat → Int32) → (Nat → Int32) → (Nat → Int32) → Prop}
    (h : ∀ j sz' st' pr' wo' sp' pa' so' wa' sl', j < 60 → WI y sz' st' pr' wo' pa' so' wa' sl' → sz ≤ sz' → st ≤ st' → Ext sz pr pr' → Ext st wo wo' → SpB y sp' → (sp' = nI 0 → sp = nI 0 ∧ j < st' ∧ pr' (wo' j) = p) → K (nI j) (nI sz') (nI st') sp' pa' so' wa' sl') : wX10_stepFor (nI p) (nI sz) (nI st) sp pa so wa sl K := by
  unfold wX10_stepFor
  refine q_numberOf hy H hsp (stp_WS hy hp) (fun i sz' pr' sp' pa' so' sl' hi H' hsz _ hx hsp' hval => ?_)
  rcases hsp' with e | ⟨e, hB⟩
  · subst e
    obtain ⟨hs0, hi', ep⟩ := hval rfl
    obtain ⟨hz, hpa, hinj, hH, hwa, hwinj, hso⟩ := id H'
    simp (disch := omega) only [q_lit, nI_add, pk_mul, q_a1, q_a3, q_a7, q_a31, q_a63, q_a255, q_a511, q_or, q_shr, q_shl, q_le, q_lt, q_eq, q_in, q_cl, q_neg, q_neg', q_nlt0, q_nle, q_nlt, q_nle', q_nlt', forall_eq, true_implies, false_implies, not_true_eq_false, not_false_eq_true, and_true, true_and, Nat.reduceMod, Nat.reducePow, Nat.reduceAdd, Nat.reduceMul, Nat.reduceDiv, Nat.reduceSub, Nat.reduceEqDiff, Nat.reduceLeDiff, Nat.reduceLT]
    refine ⟨by omega, ?_⟩
    rcases hso i hi' with ⟨j, hj, e1, e2⟩ | ⟨e1, e2⟩
    · have := WI_st H'
      rw [e1]
      simp (disch := omega) only [q_lit, nI_add, pk_mul, q_a1, q_a3, q_a7, q_a31, q_a63, q_a255, q_a511, q_or, q_shr, q_shl, q_le, q_lt, q_eq, q_in, q_cl, q_neg, q_neg', q_nlt0, q_nle, q_nlt, q_nle', q_nlt', forall_eq, true_implies, false_implies, not_true_eq_false, not_false_eq_true, and_true, true_and, Nat.reduceMod, Nat.reducePow, Nat.reduceAdd, Nat.reduceMul, Nat.reduceDiv, Nat.reduceSub, Nat.reduceEqDiff, Nat.reduceLeDiff, Nat.reduceLT]
      refine ⟨fun _ => ⟨by omega, ?_⟩, fun g => absurd (Nat.zero_le _) g⟩
      exact h j sz' st pr' wo (nI 0) pa' so' wa sl' (by omega) H' hsz (Nat.le_refl _) hx (fun _ _ => rfl) (.inl rfl) (fun _ => ⟨hs0, hj, by rw [e2, ep]⟩)
    · have hst := WI_st1 H' hi' e2
      rw [e1]
      simp (disch := omega) only [q_lit, nI_add, pk_mul, q_a1, q_a3, q_a7, q_a31, q_a63, q_a255, q_a511, q_or, q_shr, q_shl, q_le, q_lt, q_eq, q_in, q_cl, q_neg, q_neg', q_nlt0, q_nle, q_nlt, q_nle', q_nlt', forall_eq, true_implies, false_implies, not_true_eq_false, not_false_eq_true, and_true, true_and, Nat.reduceMod, Nat.reducePow, Nat.reduceAdd, Nat.reduceMul, Nat.reduceDiv, Nat.reduceSub, Nat.reduceEqDiff, Nat.reduceLeDiff, Nat.reduceLT]
      refine ⟨fun g => absurd g (by omega), fun _ => ⟨by omega, by omega, by omega, ?_⟩⟩
      rw [q_us]
      refine h st sz' (st + 1) pr' (updN wo st i) (nI 0) _ _ _ _ (by omega) ⟨hz, hpa, hinj, hH, ?_, ?_, ?_⟩ hsz (by omega) hx (fun j hj => updN_n (by omega)) (.inl rfl) (fun _ => ⟨hs0, by omega, by rw [updN_s, ep]⟩)
      · intro j hj
        rw [q_ap]
        unfold updN
        split
        · exact ⟨rfl, hi', by rw [ep]; exact hp⟩
        · exact hwa j (by omega)
      · intro a b ha hb e
        unfold updN at e
        split at e <;> split at e
        · omega
        · exact absurd e.symm (e2 b (by omega))
        · exact absurd e (e2 a (by omega))
        · exact hwinj a b (by omega) (by omega) e
      · intro i' hi''
        rw [q_ap]
        by_cases g : i' = i
        · rw [if_pos g]; exact .inl ⟨st, by omega, rfl, by rw [updN_s, g]⟩
        · rw [if_neg g]
          rcases hso i' hi'' with ⟨j, hj, f1, f2⟩ | ⟨f1, f2⟩
          · exact .inl ⟨j, by omega, f1, by rw [updN_n (by omega)]; exact f2⟩
          · refine .inr ⟨f1, fun j hj => ?_⟩
            unfold updN; split
            · exact fun e => g e.symm
            · exact f2 j (by omega)
  · subst e
    simp (disch := omega) only [q_lit, nI_add, pk_mul, q_a1, q_a3, q_a7, q_a31, q_a63, q_a255, q_a511, q_or, q_shr, q_shl, q_le, q_lt, q_eq, q_in, q_cl, q_neg, q_neg', q_nlt0, q_nle, q_nlt, q_nle', q_nlt', forall_eq, true_implies, false_implies, not_true_eq_false, not_false_eq_true, and_true, true_and, Nat.reduceMod, Nat.reducePow, Nat.reduceAdd, Nat.reduceMul, Nat.reduceDiv, Nat.reduceSub, Nat.reduceEqDiff, Nat.reduceLeDiff, Nat.reduceLT, q_one2]
    exact h 0 sz' st pr' wo (nI 1) pa' so' wa sl' (by omega) H' hsz (Nat.le_refl _) hx (fun _ _ => rfl) (.inr ⟨rfl, hB⟩) (fun e => absurd e (by decide))
