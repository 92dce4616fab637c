/-- the table 'after': at e, s stands the number of pair e and step s behind it -/
def NXo (sz : Nat) (pr wo : Nat → Nat) (nx : Nat → Int32) (e s : Nat) : Prop := ∃ k, k < sz ∧ nx (e * 60 + s) = nI k ∧ pr k = thn (pr e) (pr (wo s))
theorem NXo_ext {sz sz' st st' : Nat} {pr pr' wo wo' : Nat → Nat} {nx : Nat → Int32} {e s : Nat} (h : NXo sz pr wo nx e s) (hz : sz ≤ sz') (hx : Ext sz pr pr') (hw : Ext st wo wo') (hst : st ≤ st') (he : e < sz) (hs : s < st) (hws : wo s < sz) : NXo sz' pr' wo' nx e s := by
  obtain ⟨k, hk, e1, e2⟩ := h
  exact ⟨k, by omega, e1, by rw [hx k hk, hx e he, hw s hs, hx _ hws]; exact e2⟩
theorem SpB_cases {y : Sy} {sp : Int32} (h : SpB y sp) {A B : Prop} (h0 : sp = nI 0 → A) (h1 : sp = nI 1 → Big (WS y) → B) : (sp = 0 → A) ∧ (¬ sp = 0 → B) := by
  rcases h with e | ⟨e, hb⟩
  · exact ⟨fun _ => h0 e, fun g => absurd e g⟩
  · exact ⟨fun g => by rw [e] at g; exact absurd g (by decide), fun _ => h1 e hb⟩
theorem Ext_refl (n : Nat) (f : Nat → Nat) : Ext n f f := fun _ _ => rfl
theorem Ext_trans {n n' : Nat} {f g k : Nat → Nat} (h1 : Ext n f g) (h2 : Ext n' g k) (hn : n ≤ n') : Ext n f k := fun i hi => by rw [h2 i (by omega), h1 i hi]
theorem q_link {y : Sy} (hy : SyOk y) {st : Nat} {wo : Nat → Nat} {wa : Nat → Int32} {e f : Nat} {sz : Nat} {pr : Nat → Nat} {pa so sl nx : Nat → Int32} (H : WI y sz st pr wo pa so wa sl) (he : e < sz) (hf : f ≤ st) {sp : Int32} (hsp : SpB y sp)
    {K : Int32 → Int32 → (Nat → Int32) → (Nat → Int32) → (Nat → Int32) → (Nat → Int32) → Prop}
    (h : ∀ sz' pr' sp' pa' so' nx' sl', WI y sz' st pr' wo pa' so' wa sl' → sz ≤ sz' → Ext sz pr pr' → SpB y sp' → (∀ i, (∀ s, f ≤ s → s < st → i ≠ e * 60 + s) → nx' i = nx i) → (sp' = nI 0 → sp = nI 0 ∧ ∀ s, f ≤ s → s < st → NXo sz' pr' wo nx' e s) → K (nI sz') sp' pa' so' nx' sl') :
    wX10_link (nI e) (nI f) (nI sz) (nI st) sp pa so wa nx sl K := by
  have hst := WI_st H
  have hz := H.1
  unfold wX10_link
  intro E hE
  unfold wX10_link_L2
  intro P hP
  refine q_cnt (Q := fun s => f ≤ s → ∀ sz' pr' sp' pa' so' nx' sl', WI y sz' st pr' wo pa' so' wa sl' → sz ≤ sz' → Ext sz pr pr' → SpB y sp' → (∀ i, (∀ s, f ≤ s → s < st → i ≠ e * 60 + s) → nx' i = nx i) → (sp' = nI 0 → sp = nI 0 ∧ ∀ s', f ≤ s' → s' < s → NXo sz' pr' wo nx' e s') → P (nI s) (nI sz') sp' pa' so' nx' sl') (N := st) ?_ ?_ f hf (Nat.le_refl _) sz pr sp pa so nx sl H (Nat.le_refl _) (Ext_refl _ _) hsp (fun _ _ => rfl) (fun g => ⟨g, fun s' h1 h2 => by omega⟩)
  · intro _ sz' pr' sp' pa' so' nx' sl' H' hsz hx hsp' hnx hN
    refine hP _ _ _ _ _ _ _ ?_
    simp (disch := omega) only [q_le, Nat.le_refl, true_implies, not_true_eq_false, false_implies, and_true]
    exact hE _ _ _ _ _ _ _ (h sz' pr' sp' pa' so' nx' sl' H' hsz hx hsp' hnx hN)
  · intro s hs ih hfs sz' pr' sp' pa' so' nx' sl' H' hsz hx hsp' hnx hN
    refine hP _ _ _ _ _ _ _ ?_
    have hz' := H'.1
    simp (disch := omega) only [q_le]
    refine ⟨fun g => absurd g (by omega), fun _ => SpB_cases hsp' (fun e0 => ?_) (fun e1 hB => ?_)⟩
    rotate_left
    · subst e1
      exact hE _ _ _ _ _ _ _ (h sz' pr' (nI 1) pa' so' nx' sl' H' hsz hx (.inr ⟨rfl, hB⟩) hnx (fun g => absurd g (by decide)))
    subst e0
    obtain ⟨a1, a2, a3⟩ := H'.2.2.2.2.1 s hs
    have pe := H'.2.1 e (by omega)
    have ps := H'.2.1 (wo s) a2
    rw [q_cl (show s < 2147483648 by omega), a1]
    simp (disch := omega) only [q_in, q_cl]
    rw [pe.1, ps.1]
    refine ⟨by omega, by omega, by omega, q_thenH (WI_pr hy H' (by omega)) (WI_pr hy H' a2) ?_⟩
    refine q_numberOf hy H' hsp' (WS_stp pe.2 a3) (fun k sz2 pr2 sp2 pa2 so2 sl2 hk H2 hsz2 _ hx2 hsp2 hv => ?_)
    simp (disch := omega) only [q_lit, nI_add, pk_mul, q_a1, q_a3, q_a7, q_a31, q_a63, q_a255, q_a511, q_or, q_shr, q_shl, q_le, q_lt, q_eq, q_in, q_cl, q_neg, q_neg', q_nlt0, q_nle, q_nlt, q_nle', q_nlt', forall_eq, true_implies, false_implies, not_true_eq_false, not_false_eq_true, and_true, true_and, Nat.reduceMod, Nat.reducePow, Nat.reduceAdd, Nat.reduceMul, Nat.reduceDiv, Nat.reduceSub, Nat.reduceEqDiff, Nat.reduceLeDiff, Nat.reduceLT]
    refine ⟨by omega, ?_⟩
    refine ih (by omega) sz2 pr2 sp2 pa2 so2 _ sl2 H2 (by omega) (Ext_trans hx hx2 hsz) hsp2 (fun i hi => ?_) (fun e0 => ⟨(hN rfl).1, fun s' h1 h2 => ?_⟩)
    · rw [q_un (hi s hfs hs)]; exact hnx i hi
    · by_cases g : s' = s
      · subst g
        obtain ⟨_, hk2, ek⟩ := hv e0
        exact ⟨k, hk2, q_us, by rw [ek, hx2 e (by omega), hx2 _ a2]⟩
      · obtain ⟨k', b1, b2, b3⟩ := (hN rfl).2 s' h1 (by omega)
        have hws := (H'.2.2.2.2.1 s' (by omega)).2.1
        refine ⟨k', by omega, ?_, by rw [hx2 k' b1, hx2 e (by omega), hx2 _ hws]; exact b3⟩
        rw [q_un (by omega)]; exact b2
/-- what the class has around pair e: the steps of an open letter, pair e, and what closes it -/
def ARo (y : Sy) (st : Nat) (pr wo : Nat → Nat) (ar : Nat → Int32) (e : Nat) : Prop := ∀ v, v < 4 → ∃ j, j < st ∧ ar (4 * e + v) = nI j ∧ pr (wo j) = sB y (v / 2) (4 + v % 2) (pr e)
def PLo (y : Sy) (st : Nat) (pr wo : Nat → Nat) (pl : Nat → Int32) : Prop := ∀ v, v < 2 → ∃ j, j < st ∧ pl v = nI j ∧ pr (wo j) = sP y (2 + v)
/-- the class's wholes, put together and not spent -/
def WhOk (y : Sy) (sz st : Nat) (pr wo : Nat → Nat) (pa so wa nx ar pl sl : Nat → Int32) : Prop :=
  WI y sz st pr wo pa so wa sl ∧ pr 0 = sE y ∧ 1 ≤ sz ∧ (∀ e s, e < sz → s < st → NXo sz pr wo nx e s) ∧ (∀ e, e < sz → ARo y st pr wo ar e) ∧ PLo y st pr wo pl
theorem WhOk_step {y : Sy} {sz st : Nat} {pr wo : Nat → Nat} {pa so wa nx ar pl sl : Nat → Int32} (H : WhOk y sz st pr wo pa so wa nx ar pl sl) {s : Nat} (hs : stpS y (fun x => ∃ i, i < sz ∧ pr i = x) s) : ∃ j, j < st ∧ pr (wo j) = s := by
  obtain ⟨_, _, _, _, hA, hP⟩ := H
  rcases hs with e | e | ⟨a, e, o, h1, h2, h3, ⟨i, hi, ei⟩, h5⟩
  · obtain ⟨j, hj, _, e2⟩ := hP 0 (by omega); exact ⟨j, hj, by rw [e2, e]⟩
  · obtain ⟨j, hj, _, e2⟩ := hP 1 (by omega); exact ⟨j, hj, by rw [e2, e]⟩
  · obtain ⟨j, hj, _, e2⟩ := hA i hi (2 * a + (e - 4)) (by omega)
    refine ⟨j, hj, ?_⟩
    rw [e2, h5, ei, show (2 * a + (e - 4)) / 2 = a from by omega, show 4 + (2 * a + (e - 4)) % 2 = e from by omega]
theorem WhOk_Enum {y : Sy} {sz st : Nat} {pr wo : Nat → Nat} {pa so wa nx ar pl sl : Nat → Int32} (H : WhOk y sz st pr wo pa so wa nx ar pl sl) : Enum (WS y) pr sz := by
  obtain ⟨hW, h0, h1, hN, _, _⟩ := id H
  refine ⟨fun i hi => (hW.2.1 i hi).2, hW.2.2.1, fun x hx => hx (fun x => ∃ i, i < sz ∧ pr i = x) ⟨0, by omega, h0⟩ ?_⟩
  rintro u s ⟨i, hi, ei⟩ hs
  obtain ⟨j, hj, ej⟩ := WhOk_step H hs
  obtain ⟨k, hk, _, e2⟩ := hN i j hi hj
  exact ⟨k, hk, by rw [e2, ei, ej]⟩
theorem WhOk_steps {y : Sy} {sz st : Nat} {pr wo : Nat → Nat} {pa so wa nx ar pl sl : Nat → Int32} (H : WhOk y sz st pr wo pa so wa nx ar pl sl) : Enum (stpS y (WS y)) (fun j => pr (wo j)) st := by
  have hE := WhOk_Enum H
  obtain ⟨hW, _, _, _, _, _⟩ := id H
  refine ⟨fun j hj => (hW.2.2.2.2.1 j hj).2.2, fun i j hi hj e => hW.2.2.2.2.2.1 i j hi hj (hW.2.2.1 _ _ (hW.2.2.2.2.1 i hi).2.1 (hW.2.2.2.2.1 j hj).2.1 e), fun s hs => WhOk_step H (stpS_mono hE.2.2 hs)⟩
theorem ARo_ext {y : Sy} {sz st st' : Nat} {pr pr' wo wo' : Nat → Nat} {ar : Nat → Int32} {e : Nat} (h : ARo y st pr wo ar e) (hx : Ext sz pr pr') (hw : Ext st wo wo') (hst : st ≤ st') (he : e < sz) (hws : ∀ j, j < st → wo j < sz) : ARo y st' pr' wo' ar e := by
  intro v hv
  obtain ⟨j, hj, e1, e2⟩ := h v hv
  exact ⟨j, by omega, e1, by rw [hw j hj, hx _ (hws j hj), hx e he]; exact e2⟩
theorem PLo_ext {y : Sy} {sz st st' : Nat} {pr pr' wo wo' : Nat → Nat} {pl : Nat → Int32} (h : PLo y st pr wo pl) (hx : Ext sz pr pr') (hw : Ext st wo wo') (hst : st ≤ st') (hws : ∀ j, j < st → wo j < sz) : PLo y st' pr' wo' pl := by
  intro v hv
  obtain ⟨j, hj, e1, e2⟩ := h v hv
  exact ⟨j, by omega, e1, by rw [hw j hj, hx _ (hws j hj)]; exact e2⟩
section
variable {y : Sy} {bo n1 m1 t1 n2 m2 t2 : Nat} {w1 w2 : Nat → Nat}
/-- the four steps around one pair -/
theorem q_L109 (hH : HeldOk y bo n1 m1 t1 n2 m2 t2 w1 w2) {sz st : Nat} {pr wo : Nat → Nat} {pa so wa sl ar : Nat → Int32} (H : WI y sz st pr wo pa so wa sl) {e : Nat} (he : e < sz) {sp : Int32} (hsp : SpB y sp)
    {E : Int32 → Int32 → Int32 → Int32 → (Nat → Int32) → (Nat → Int32) → (Nat → Int32) → (Nat → Int32) → (Nat → Int32) → Prop}
    (h : ∀ sz' st' pr' wo' sp' pa' so' wa' ar' sl', WI y sz' st' pr' wo' pa' so' wa' sl' → sz ≤ sz' → st ≤ st' → Ext sz pr pr' → Ext st wo wo' → SpB y sp' → (∀ i, (∀ v, v < 4 → i ≠ 4 * e + v) → ar' i = ar i) → (sp' = nI 0 → sp = nI 0 ∧ ARo y st' pr' wo' ar' e) → E (nI 4) (nI sz') (nI st') sp' pa' so' wa' ar' sl') :
    wX10_build_L109 (nI m1) (fun j => nI (w1 j)) (nI m2) (fun j => nI (w2 j)) (nI e) E (nI 0) (nI sz) (nI st) sp pa so wa ar sl := by
  have hy := HeldOk_Sy hH
  unfold wX10_build_L109
  intro P hP
  refine q_cnt (Q := fun v => ∀ sz' st' pr' wo' sp' pa' so' wa' ar' sl', WI y sz' st' pr' wo' pa' so' wa' sl' → sz ≤ sz' → st ≤ st' → Ext sz pr pr' → Ext st wo wo' → SpB y sp' → (∀ i, (∀ v, v < 4 → i ≠ 4 * e + v) → ar' i = ar i) → (sp' = nI 0 → sp = nI 0 ∧ ∀ u, u < v → ∃ j, j < st' ∧ ar' (4 * e + u) = nI j ∧ pr' (wo' j) = sB y (u / 2) (4 + u % 2) (pr' e)) → P (nI v) (nI sz') (nI st') sp' pa' so' wa' ar' sl') (N := 4) ?_ ?_ 0 (by omega) sz st pr wo sp pa so wa ar sl H (Nat.le_refl _) (Nat.le_refl _) (Ext_refl _ _) (Ext_refl _ _) hsp (fun _ _ => rfl) (fun g => ⟨g, fun u hu => by omega⟩)
  · intro sz' st' pr' wo' sp' pa' so' wa' ar' sl' H' a1 a2 a3 a4 a5 a6 a7
    refine hP _ _ _ _ _ _ _ _ _ ?_
    simp (disch := omega) only [q_lit, nI_add, pk_mul, q_a1, q_a3, q_a7, q_a31, q_a63, q_a255, q_a511, q_or, q_shr, q_shl, q_le, q_lt, q_eq, q_in, q_cl, q_neg, q_neg', q_nlt0, q_nle, q_nlt, q_nle', q_nlt', forall_eq, true_implies, false_implies, not_true_eq_false, not_false_eq_true, and_true, true_and, Nat.reduceMod, Nat.reducePow, Nat.reduceAdd, Nat.reduceMul, Nat.reduceDiv, Nat.reduceSub, Nat.reduceEqDiff, Nat.reduceLeDiff, Nat.reduceLT, Nat.le_refl]
    exact h sz' st' pr' wo' sp' pa' so' wa' ar' sl' H' a1 a2 a3 a4 a5 a6 a7
  · intro v hv ih sz' st' pr' wo' sp' pa' so' wa' ar' sl' H' a1 a2 a3 a4 a5 a6 a7
    refine hP _ _ _ _ _ _ _ _ _ ?_
    have hz' := H'.1
    have pe := H'.2.1 e (by omega)
    have h2v : v / 2 < 2 := by omega
    simp (disch := omega) only [q_lit, nI_add, pk_mul, q_a1, q_a3, q_a7, q_a31, q_a63, q_a255, q_a511, q_or, q_shr, q_shl, q_le, q_lt, q_eq, q_in, q_cl, q_neg, q_neg', q_nlt0, q_nle, q_nlt, q_nle', q_nlt', forall_eq, true_implies, false_implies, not_true_eq_false, not_false_eq_true, and_true, true_and, Nat.reduceMod, Nat.reducePow, Nat.reduceAdd, Nat.reduceMul, Nat.reduceDiv, Nat.reduceSub, Nat.reduceEqDiff, Nat.reduceLeDiff, Nat.reduceLT]
    rw [show v / 2 ^ 1 = v / 2 from rfl, Nat.zero_add, pe.1]
    refine ⟨fun g => absurd g (by omega), fun _ => ⟨by omega, ?_⟩⟩
    refine q_wrappedH hH h2v (by omega) (by omega) (WS_R2 hy pe.2) ?_
    refine q_stepFor hy H' a5 (.inr (.inr ⟨v / 2, 4 + v % 2, pr' e, h2v, by omega, by omega, pe.2, rfl⟩)) (fun j sz2 st2 pr2 wo2 sp2 pa2 so2 wa2 sl2 hj H2 b1 b2 b3 b4 b5 b6 => ?_)
    refine ⟨by omega, ?_⟩
    refine ih sz2 st2 pr2 wo2 sp2 pa2 so2 wa2 _ sl2 H2 (by omega) (by omega) (Ext_trans a3 b3 a1) (Ext_trans a4 b4 a2) b5 (fun i hi => ?_) (fun e0 => ⟨(a7 (b6 e0).1).1, fun u hu => ?_⟩)
    · rw [q_un (hi v hv)]; exact a6 i hi
    · obtain ⟨e0', c1, c2⟩ := b6 e0
      by_cases g : u = v
      · subst g
        exact ⟨j, c1, q_us, by rw [c2, b3 e (by omega)]⟩
      · obtain ⟨j', c1, c2, c3⟩ := (a7 e0').2 u (by omega)
        exact ⟨j', by omega, by rw [q_un (by omega)]; exact c2, by rw [b4 j' c1, b3 _ (H'.2.2.2.2.1 j' c1).2.1, b3 e (by omega)]; exact c3⟩
theorem q_L163 (hy : SyOk y) {kn st : Nat} {wo : Nat → Nat} {wa : Nat → Int32} {e : Nat} (hk : kn ≤ st) {sz : Nat} {pr : Nat → Nat} {sp : Int32} {pa so nx sl : Nat → Int32} (H : WI y sz st pr wo pa so wa sl) (he : e < sz) (hsp : SpB y sp) (hN : sp = nI 0 → ∀ e', e' < e → ∀ s, s < kn → NXo sz pr wo nx e' s)
    {E : Int32 → Int32 → Int32 → (Nat → Int32) → (Nat → Int32) → (Nat → Int32) → (Nat → Int32) → Prop}
    (h : ∀ sz' pr' sp' pa' so' nx' sl', WI y sz' st pr' wo pa' so' wa sl' → sz ≤ sz' → Ext sz pr pr' → SpB y sp' → (sp' = nI 0 → sp = nI 0 ∧ ∀ e', e' < e → ∀ s, s < st → NXo sz' pr' wo nx' e' s) → E (nI e) (nI sz') sp' pa' so' nx' sl') :
    wX10_build_L163 (nI e) (nI kn) (nI st) wa E (nI 0) (nI sz) sp pa so nx sl := by
  have hst := WI_st H
  have hz := H.1
  unfold wX10_build_L163
  intro P hP
  refine q_cnt (Q := fun x => ∀ sz' pr' sp' pa' so' nx' sl', WI y sz' st pr' wo pa' so' wa sl' → sz ≤ sz' → Ext sz pr pr' → SpB y sp' → (sp' = nI 0 → sp = nI 0 ∧ (∀ e', e' < x → ∀ s, s < st → NXo sz' pr' wo nx' e' s) ∧ ∀ e', x ≤ e' → e' < e → ∀ s, s < kn → NXo sz' pr' wo nx' e' s) → P (nI x) (nI sz') sp' pa' so' nx' sl') (N := e) ?_ ?_ 0 (by omega) sz pr sp pa so nx sl H (Nat.le_refl _) (Ext_refl _ _) hsp (fun g => ⟨g, fun e' h1 => by omega, fun e' _ h2 => hN g e' h2⟩)
  · intro sz' pr' sp' pa' so' nx' sl' H' a1 a2 a3 a4
    refine hP _ _ _ _ _ _ _ ?_
    simp (disch := omega) only [q_le, Nat.le_refl, true_implies, not_true_eq_false, false_implies, and_true]
    exact h sz' pr' sp' pa' so' nx' sl' H' a1 a2 a3 (fun g => ⟨(a4 g).1, (a4 g).2.1⟩)
  · intro x hx ih sz' pr' sp' pa' so' nx' sl' H' a1 a2 a3 a4
    refine hP _ _ _ _ _ _ _ ?_
    have hz' := H'.1
    have hst' := WI_st H'
    simp (disch := omega) only [q_le]
    refine ⟨fun g => absurd g (by omega), fun _ => q_link hy H' (by omega) hk a3 (fun sz2 pr2 sp2 pa2 so2 nx2 sl2 H2 b1 b2 b3 b4 b5 => ?_)⟩
    simp only [q_lit, nI_add, pk_mul, q_a1, q_a3, q_a7, q_a31, q_a63, q_a255, q_a511, q_or, q_shr, q_shl, q_le, q_lt, q_eq, q_in, q_cl, q_neg, q_neg', q_nlt0, q_nle, q_nlt, q_nle', q_nlt', forall_eq, true_implies, false_implies, not_true_eq_false, not_false_eq_true, and_true, true_and, Nat.reduceMod, Nat.reducePow, Nat.reduceAdd, Nat.reduceMul, Nat.reduceDiv, Nat.reduceSub, Nat.reduceEqDiff, Nat.reduceLeDiff, Nat.reduceLT]
    refine ih sz2 pr2 sp2 pa2 so2 nx2 sl2 H2 (by omega) (Ext_trans a2 b2 a1) b3 (fun g => ?_)
    obtain ⟨c0, c1⟩ := b5 g
    obtain ⟨d0, d1, d2⟩ := a4 c0
    have keep : ∀ e' s, e' < sz' → s < st → (e' ≠ x ∨ s < kn) → NXo sz' pr' wo nx' e' s → NXo sz2 pr2 wo nx2 e' s := fun e' s he' hs hne hh => by
      have hws := (H'.2.2.2.2.1 s hs).2.1
      obtain ⟨k, k1, k2, k3⟩ := NXo_ext hh b1 b2 (Ext_refl st wo) (Nat.le_refl st) he' hs hws
      refine ⟨k, k1, ?_, k3⟩
      rw [b4 _ (fun s' h1 h2 => by omega)]
      exact k2
    refine ⟨d0, fun e' he' s hs => ?_, fun e' h1 h2 s hs => keep e' s (by omega) (by omega) (.inl (by omega)) (d2 e' (by omega) h2 s hs)⟩
    by_cases g1 : e' = x
    · subst g1
      rcases Nat.lt_or_ge s kn with g2 | g2
      · exact keep e' s (by omega) hs (.inr g2) (d2 e' (Nat.le_refl _) hx s g2)
      · exact c1 s g2 hs
    · exact keep e' s (by omega) hs (.inl g1) (d1 e' (by omega) s hs)
theorem q_L87 (hH : HeldOk y bo n1 m1 t1 n2 m2 t2 w1 w2) {pl : Nat → Int32} {sz st : Nat} {pr wo : Nat → Nat} {sp : Int32} {pa so wa nx ar sl : Nat → Int32} (H : WI y sz st pr wo pa so wa sl) (hsp : SpB y sp) (h0 : sp = nI 0 → pr 0 = sE y ∧ 1 ≤ sz ∧ PLo y st pr wo pl)
    {E : Int32 → Int32 → Int32 → Int32 → (Nat → Int32) → (Nat → Int32) → (Nat → Int32) → (Nat → Int32) → (Nat → Int32) → (Nat → Int32) → Prop}
    (h : ∀ i sz' st' pr' wo' sp' pa' so' wa' nx' ar' sl', SpB y sp' → (sp' = nI 0 → WhOk y sz' st' pr' wo' pa' so' wa' nx' ar' pl sl') → E i (nI sz') (nI st') sp' pa' so' wa' nx' ar' sl') :
    wX10_build_L87 (nI m1) (fun j => nI (w1 j)) (nI m2) (fun j => nI (w2 j)) E (nI 0) (nI sz) (nI st) sp pa so wa nx ar sl := by
  have hy := HeldOk_Sy hH
  unfold wX10_build_L87
  intro P hP
  have fin : ∀ e sz' st' pr' wo' sp' pa' so' wa' nx' ar' sl', WI y sz' st' pr' wo' pa' so' wa' sl' → SpB y sp' → (sp' = nI 0 → pr' 0 = sE y ∧ 1 ≤ sz' ∧ PLo y st' pr' wo' pl ∧ sz' ≤ e ∧ ∀ e', e' < e → e' < sz' → ARo y st' pr' wo' ar' e' ∧ ∀ s, s < st' → NXo sz' pr' wo' nx' e' s) → E (nI e) (nI sz') (nI st') sp' pa' so' wa' nx' ar' sl' :=
    fun e sz' st' pr' wo' sp' pa' so' wa' nx' ar' sl' H' a1 a2 => h (nI e) sz' st' pr' wo' sp' pa' so' wa' nx' ar' sl' a1 (fun g => by
      obtain ⟨b1, b2, b3, b4, b5⟩ := a2 g
      exact ⟨H', b1, b2, fun e s he hs => (b5 e (by omega) he).2 s hs, fun e he => (b5 e (by omega) he).1, b3⟩)
  refine q_cnt0 (Q := fun e => ∀ sz' st' pr' wo' sp' pa' so' wa' nx' ar' sl', WI y sz' st' pr' wo' pa' so' wa' sl' → SpB y sp' → (sp' = nI 0 → pr' 0 = sE y ∧ 1 ≤ sz' ∧ PLo y st' pr' wo' pl ∧ ∀ e', e' < e → e' < sz' → ARo y st' pr' wo' ar' e' ∧ ∀ s, s < st' → NXo sz' pr' wo' nx' e' s) → P (nI e) (nI sz') (nI st') sp' pa' so' wa' nx' ar' sl') 60 ?_ ?_ sz st pr wo sp pa so wa nx ar sl H hsp (fun g => ⟨(h0 g).1, (h0 g).2.1, (h0 g).2.2, fun e' h1 => by omega⟩)
  · intro sz' st' pr' wo' sp' pa' so' wa' nx' ar' sl' H' a1 a2
    have hz' := H'.1
    refine hP _ _ _ _ _ _ _ _ _ _ ?_
    simp (disch := omega) only [q_le]
    exact ⟨fun _ => fin 60 sz' st' pr' wo' sp' pa' so' wa' nx' ar' sl' H' a1 (fun g => ⟨(a2 g).1, (a2 g).2.1, (a2 g).2.2.1, hz', (a2 g).2.2.2⟩), fun g => absurd hz' g⟩
  · intro e he ih sz' st' pr' wo' sp' pa' so' wa' nx' ar' sl' H' a1 a2
    have hz' := H'.1
    refine hP _ _ _ _ _ _ _ _ _ _ ?_
    simp (disch := omega) only [q_le]
    refine ⟨fun g1 => fin e sz' st' pr' wo' sp' pa' so' wa' nx' ar' sl' H' a1 (fun g => ⟨(a2 g).1, (a2 g).2.1, (a2 g).2.2.1, g1, (a2 g).2.2.2⟩), fun g1 => SpB_cases a1 (fun e0 => ?_) (fun e1 hB => ?_)⟩
    rotate_left
    · subst e1
      exact h (nI e) sz' st' pr' wo' (nI 1) pa' so' wa' nx' ar' sl' (.inr ⟨rfl, hB⟩) (fun g => absurd g (by decide))
    subst e0
    obtain ⟨c1, c2, c3, c4⟩ := a2 rfl
    refine q_L109 hH H' (by omega) a1 (fun sz2 st2 pr2 wo2 sp2 pa2 so2 wa2 ar2 sl2 H2 b1 b2 b3 b4 b5 b6 b7 => ?_)
    have hz2 := H2.1
    have hws := fun j hj => (H'.2.2.2.2.1 j hj).2.1
    have hws2 := fun j hj => (H2.2.2.2.2.1 j hj).2.1
    refine q_L163 hy b2 H2 (by omega) b5 (fun g e' he' s hs => NXo_ext ((c4 e' he' (by omega)).2 s hs) b1 b3 b4 b2 (by omega) hs (hws s hs)) (fun sz3 pr3 sp3 pa3 so3 nx3 sl3 H3 d1 d2 d3 d4 => ?_)
    have hz3 := H3.1
    have hst3 := WI_st H3
    refine q_link hy H3 (by omega) (Nat.zero_le _) d3 (fun sz4 pr4 sp4 pa4 so4 nx4 sl4 H4 f1 f2 f3 f4 f5 => ?_)
    simp only [q_lit, nI_add, pk_mul, q_a1, q_a3, q_a7, q_a31, q_a63, q_a255, q_a511, q_or, q_shr, q_shl, q_le, q_lt, q_eq, q_in, q_cl, q_neg, q_neg', q_nlt0, q_nle, q_nlt, q_nle', q_nlt', forall_eq, true_implies, false_implies, not_true_eq_false, not_false_eq_true, and_true, true_and, Nat.reduceMod, Nat.reducePow, Nat.reduceAdd, Nat.reduceMul, Nat.reduceDiv, Nat.reduceSub, Nat.reduceEqDiff, Nat.reduceLeDiff, Nat.reduceLT]
    refine ih sz4 st2 pr4 wo2 sp4 pa4 so4 wa2 nx4 ar2 sl4 H4 f3 (fun g => ?_)
    obtain ⟨g3, gN⟩ := f5 g
    obtain ⟨g2, gM⟩ := d4 g3
    obtain ⟨_, gA⟩ := b7 g2
    have x13 : Ext sz' pr' pr3 := Ext_trans b3 d2 b1
    have x14 : Ext sz' pr' pr4 := Ext_trans x13 f2 (by omega)
    have x24 : Ext sz2 pr2 pr4 := Ext_trans d2 f2 d1
    refine ⟨by rw [x14 0 (by omega)]; exact c1, by omega, PLo_ext c3 x14 b4 b2 hws, fun e' h1 h2 => ?_⟩
    by_cases ge : e' = e
    · subst ge
      exact ⟨ARo_ext gA x24 (Ext_refl _ _) (Nat.le_refl _) (by omega) hws2, fun s hs => gN s (Nat.zero_le _) hs⟩
    · refine ⟨?_, fun s hs => ?_⟩
      · have := ARo_ext (c4 e' (by omega) (by omega)).1 x14 b4 b2 (by omega) hws
        intro v hv
        obtain ⟨j, j1, j2, j3⟩ := this v hv
        exact ⟨j, j1, by rw [b6 _ (fun v' hv' => by omega)]; exact j2, j3⟩
      · obtain ⟨k, k1, k2, k3⟩ := NXo_ext (gM e' (by omega) s hs) f1 f2 (Ext_refl st2 wo2) (Nat.le_refl _) (by omega) hs (H3.2.2.2.2.1 s hs).2.1
        exact ⟨k, k1, by rw [f4 _ (fun s' h1 h2 => by omega)]; exact k2, k3⟩
/-- the class's wholes, put together -/
theorem q_build (hH : HeldOk y bo n1 m1 t1 n2 m2 t2 w1 w2) {a b c : Int32} {pa so wa nx ar pl sl : Nat → Int32} {K : Int32 → Int32 → Int32 → (Nat → Int32) → (Nat → Int32) → (Nat → Int32) → (Nat → Int32) → (Nat → Int32) → (Nat → Int32) → (Nat → Int32) → Prop}
    (h : ∀ sz st pr wo sp pa so wa nx ar pl sl, SpB y sp → (sp = nI 0 → WhOk y sz st pr wo pa so wa nx ar pl sl) → K (nI sz) (nI st) sp pa so wa nx ar pl sl) :
    wX10_build a b c (nI bo) (nI n1) (nI m1) (fun j => nI (w1 j)) (nI n2) (nI m2) (fun j => nI (w2 j)) pa so wa nx ar pl sl K := by
  have hy := HeldOk_Sy hH
  unfold wX10_build wX10_build_L17
  intro P hP
  refine q_cnt0 (Q := fun i => ∀ sl, (∀ s, s < i → sl s = nI 0) → P (nI i) sl) 256 ?_ ?_ sl (fun s hs => absurd hs (by omega))
  · intro sl hsl
    refine hP _ _ ?_
    simp (disch := omega) only [q_lit, nI_add, pk_mul, q_a1, q_a3, q_a7, q_a31, q_a63, q_a255, q_a511, q_or, q_shr, q_shl, q_le, q_lt, q_eq, q_in, q_cl, q_neg, q_neg', q_nlt0, q_nle, q_nlt, q_nle', q_nlt', forall_eq, true_implies, false_implies, not_true_eq_false, not_false_eq_true, and_true, true_and, Nat.reduceMod, Nat.reducePow, Nat.reduceAdd, Nat.reduceMul, Nat.reduceDiv, Nat.reduceSub, Nat.reduceEqDiff, Nat.reduceLeDiff, Nat.reduceLT, Nat.le_refl]
    have W0 : WI y 0 0 (fun _ => 0) (fun _ => 0) pa so wa sl := ⟨by omega, fun i hi => by omega, fun i j hi => by omega, ⟨fun _ => 0, fun s hs => ⟨hsl s hs, Nat.le_refl _⟩, fun s s' _ _ _ g => absurd rfl g, fun i hi => by omega⟩, fun j hj => by omega, fun i j hi => by omega, fun i hi => by omega⟩
    refine q_identityH hH (q_numberOf hy W0 (.inl rfl) (WS_E y) (fun i sz1 pr1 sp1 pa1 so1 sl1 hi H1 _ a1 _ a3 a4 => ?_))
    refine q_plainH hH (l := 2) (by omega) (q_stepFor hy H1 a3 (.inl rfl) (fun j sz2 st2 pr2 wo2 sp2 pa2 so2 wa2 sl2 hj H2 b1 b2 b3 b4 b5 b6 => ?_))
    refine q_plainH hH (l := 3) (by omega) (q_stepFor hy H2 b5 (.inr (.inl rfl)) (fun j' sz3 st3 pr3 wo3 sp3 pa3 so3 wa3 sl3 hj' H3 c1 c2 c3 c4 c5 c6 => ?_))
    intro E hE
    refine q_L87 hH H3 c5 (fun g => ?_) (fun i' sz' st' pr' wo' sp' pa' so' wa' nx' ar' sl' d1 d2 => hE _ _ _ _ _ _ _ _ _ _ (h sz' st' pr' wo' sp' pa' so' wa' nx' ar' _ sl' d1 d2))
    obtain ⟨g2, x1, x2⟩ := c6 g
    obtain ⟨g1, z1, z2⟩ := b6 g2
    obtain ⟨_, u1, u2⟩ := a4 g1
    have hi0 : i = 0 := by omega
    subst hi0
    have z2w := (H2.2.2.2.2.1 j z1).2.1
    refine ⟨by rw [c3 0 (by omega), b3 0 (by omega)]; exact u2, by omega, fun v hv => ?_⟩
    have hv2 : v = 0 ∨ v = 1 := by omega
    rcases hv2 with rfl | rfl
    · refine ⟨j, by omega, ?_, ?_⟩
      · rw [q_un (by omega), q_us]
      · rw [c4 j z1, c3 _ z2w]; exact z2
    · exact ⟨j', x1, q_us, x2⟩
  · intro i hi ih sl hsl
    refine hP _ _ ?_
    simp (disch := omega) only [q_lit, nI_add, pk_mul, q_a1, q_a3, q_a7, q_a31, q_a63, q_a255, q_a511, q_or, q_shr, q_shl, q_le, q_lt, q_eq, q_in, q_cl, q_neg, q_neg', q_nlt0, q_nle, q_nlt, q_nle', q_nlt', forall_eq, true_implies, false_implies, not_true_eq_false, not_false_eq_true, and_true, true_and, Nat.reduceMod, Nat.reducePow, Nat.reduceAdd, Nat.reduceMul, Nat.reduceDiv, Nat.reduceSub, Nat.reduceEqDiff, Nat.reduceLeDiff, Nat.reduceLT]
    refine ⟨fun g => absurd g (by omega), fun _ => ⟨hi, ih _ (fun s hs => ?_)⟩⟩
    rw [q_ap]; split
    · rfl
    · exact hsl s (by omega)
end
