section
variable {y : Sy} {wh n0 m0 t0 n1 m1 t1 : Nat} {w0 w1 : Nat → Nat} {st mk tk pu go cl : Nat → Int32}
/-- what stands behind node t by a letter without a partner -/
def NA (y : Sy) (t : Nd) (l m : Nat) (ns : Nat → Nd) : Prop := (∃ i, i < m ∧ ns i = ((sA y l t.1.1, sE y), true)) ∧ (t.2 = false → ∃ i, i < m ∧ ns i = ((sA y (4 + l) t.1.1, sE y), false))
theorem m_L207 (hw : wh < 3) (hy : y = syM wh n0 w0 n1 w1) (hok : SyOk y) (M : MdOk n0 m0 t0 w0 n1 m1 t1 w1 st mk tk pu go cl) {b0 k : Nat} {C : Nat → (Nat → Nd) → Prop} {mo sp pl : Int32} {n : Nat} {nd : Nat → Nd} {co si de lo : Nat → Int32} (S : SN y wh b0 C mo sp n pl nd co si de lo) (hk : k < n) {t : Nd} (et : nd k = t) (ht : NSt y t)
    {E : Int32 → Int32 → Int32 → Int32 → Int32 → (Nat → Int32) → (Nat → Int32) → (Nat → Int32) → (Nat → Int32) → Prop}
    (h : ∀ mo' sp' n' pl' nd' co' si' de' lo', SN y wh b0 (fun m ns => C m ns ∧ ∀ l, l < 2 → NA y t l m ns) mo' sp' n' pl' nd' co' si' de' lo' → n ≤ n' → (∀ i, i < n → nd' i = nd i) → E mo' (nI 2) sp' (nI n') pl' co' si' de' lo') :
    wX12_meetBehind_L207 (nI wh) (nI k) st pu cl (nI (ps wh t.1.1)) E mo (nI 0) sp (nI n) pl co si de lo := by
  unfold wX12_meetBehind_L207
  intro P hP
  refine q_cnt0 (Q := fun l => ∀ mo' sp' n' pl' nd' co' si' de' lo', SN y wh b0 (fun m ns => C m ns ∧ ∀ l', l' < l → NA y t l' m ns) mo' sp' n' pl' nd' co' si' de' lo' → n ≤ n' → (∀ i, i < n → nd' i = nd i) → P mo' (nI l) sp' (nI n') pl' co' si' de' lo') 2 ?_ ?_ mo sp n pl nd co si de lo (SN_mono S (fun _ c => ⟨c, fun u h1 => by omega⟩)) (Nat.le_refl _) (fun _ _ => rfl)
  · intro mo' sp' n' pl' nd' co' si' de' lo' S' a1 a2
    refine hP _ _ _ _ _ _ _ _ _ ?_
    simp (disch := omega) only [q_lit, nI_add, pk_mul, q_a1, q_a3, q_a7, q_a31, q_a63, q_a255, q_a511, q_or, q_shr, q_shl, q_le, q_lt, q_eq, q_in, q_cl, q_neg, q_neg', q_nlt0, q_nle, q_nlt, q_nle', q_nlt', forall_eq, true_implies, false_implies, not_true_eq_false, not_false_eq_true, and_true, true_and, Nat.reduceMod, Nat.reducePow, Nat.reduceAdd, Nat.reduceMul, Nat.reduceDiv, Nat.reduceSub, Nat.reduceEqDiff, Nat.reduceLeDiff, Nat.reduceLT, Nat.le_refl]
    exact h _ _ _ _ _ _ _ _ _ S' a1 a2
  · intro l hl ih mo' sp' n' pl' nd' co' si' de' lo' S' a1 a2
    refine hP _ _ _ _ _ _ _ _ _ ?_
    have hn' := S'.1.1.1
    have Sc := NS_S2 hok ht
    rw [q_cl (show k < 2147483648 by omega)]
    simp (disch := omega) only [q_lit, nI_add, pk_mul, q_a1, q_a3, q_a7, q_a31, q_a63, q_a255, q_a511, q_or, q_shr, q_shl, q_le, q_lt, q_eq, q_in, q_cl, q_neg, q_neg', q_nlt0, q_nle, q_nlt, q_nle', q_nlt', forall_eq, true_implies, false_implies, not_true_eq_false, not_false_eq_true, and_true, true_and, Nat.reduceMod, Nat.reducePow, Nat.reduceAdd, Nat.reduceMul, Nat.reduceDiv, Nat.reduceSub, Nat.reduceEqDiff, Nat.reduceLeDiff, Nat.reduceLT]
    refine ⟨fun g => absurd g (by omega), fun _ => ?_⟩
    -- the second meeting, that goes on to P
    have second : ∀ (mo2 sp2 : Int32) (n2 : Nat) (pl2 : Int32) (nd2 : Nat → Nd) (co2 si2 de2 lo2 : Nat → Int32), SN y wh b0 (fun m ns => (C m ns ∧ ∀ l', l' < l → NA y t l' m ns) ∧ ∃ i, i < m ∧ ns i = ((sA y l t.1.1, sE y), true)) mo2 sp2 n2 pl2 nd2 co2 si2 de2 lo2 → n' ≤ n2 → (∀ i, i < n' → nd2 i = nd' i) → (k < 128 ∧ ((de2 k = nI 0 → wX12_closedOff (nI wh) (nI (4 + l)) (nI (ps wh t.1.1)) cl (fun r36 => wX12_itself (nI wh) st (fun r37 => (k < 128 ∧ wX12_meetNode r36 r37 (nI 0) (lo2 k + nI 1) sp2 (nI n2) pl2 co2 si2 de2 lo2 (fun r38 u39 u40 u41 u42 u43 u44 u45 => ((r38 = nI 0 → P mo2 (nI (l + 1)) u39 u40 u41 u42 u43 u44 u45) ∧ (¬ r38 = nI 0 → P (nI 1) (nI (l + 1)) u39 u40 u41 u42 u43 u44 u45))))))) ∧ (¬ de2 k = nI 0 → P mo2 (nI (l + 1)) sp2 (nI n2) pl2 co2 si2 de2 lo2))) := by
      intro mo2 sp2 n2 pl2 nd2 co2 si2 de2 lo2 S2 b1 b2
      have ek := (S2.1.1.2.1 k (by omega)).2.2.1
      rw [b2 k (by omega), a2 k hk, et] at ek
      have l4 := bI_lt t.2
      rw [ek, q_eq (by omega) (by omega)]
      refine ⟨by omega, fun g => ?_, fun g => ?_⟩
      · have g2 : t.2 = false := by cases g' : t.2; rfl; rw [g'] at g; exact absurd g (by decide)
        have ht' : NS y t.1.1 t.1.2 false := by have := ht; unfold NSt at this; rw [g2] at this; exact this
        subst hy
        refine m_closedOff hw M (by omega) (by omega) Sc (m_itself hw M ⟨by omega, ?_⟩)
        refine m_meet hw rfl hok S2.1 (t := ((sA _ (4 + l) t.1.1, sE _), false)) (NS_close ht' (by omega) (by omega)) (fun r sp3 n3 pl3 nd3 co3 si3 de3 lo3 I d1 d2 d3 => ?_)
        obtain ⟨c1, c2, c3⟩ := SN_next S2 I d3
        have tail : ∀ mo3, SN (syM wh n0 w0 n1 w1) wh b0 (fun m ns => (((C m ns ∧ ∀ l', l' < l → NA (syM wh n0 w0 n1 w1) t l' m ns) ∧ ∃ i, i < m ∧ ns i = ((sA (syM wh n0 w0 n1 w1) l t.1.1, sE (syM wh n0 w0 n1 w1)), true)) ∧ m = n2 ∧ ns = nd2 ∧ ∃ i, i < n2 ∧ nd2 i = ((sA (syM wh n0 w0 n1 w1) (4 + l) t.1.1, sE (syM wh n0 w0 n1 w1)), false))) mo3 sp3 n3 pl3 nd3 co3 si3 de3 lo3 → P mo3 (nI (l + 1)) sp3 (nI n3) pl3 co3 si3 de3 lo3 := fun mo3 S3 => by
          refine ih _ _ _ _ nd3 _ _ _ _ (SN_mono S3 (fun _ ⟨⟨⟨e1, e2⟩, e3⟩, e4, e5, e6⟩ => ⟨e1, fun u hu => ?_⟩)) (by omega) (fun i hi => by rw [d2 i (by omega), b2 i (by omega), a2 i hi])
          by_cases e : u = l
          · subst e
            refine ⟨e3, fun _ => ?_⟩
            obtain ⟨i, hi, ei⟩ := e6
            exact ⟨i, by omega, by rw [e5]; exact ei⟩
          · exact e2 u (by omega)
        refine ⟨fun g3 => tail mo2 (c1 g3), fun g3 => tail (nI 1) (c2 ?_ _)⟩
        rcases c3 with e | e
        · exact absurd e g3
        · exact e
      · have g2 : t.2 = true := by cases g' : t.2; rw [g'] at g; exact absurd rfl g; rfl
        refine ih _ _ _ _ nd2 _ _ _ _ (SN_mono S2 (fun _ ⟨⟨e1, e2⟩, e3⟩ => ⟨e1, fun u hu => ?_⟩)) (by omega) (fun i hi => by rw [b2 i (by omega), a2 i hi])
        by_cases e : u = l
        · subst e
          exact ⟨e3, fun g' => by rw [g2] at g'; exact absurd g' (by decide)⟩
        · exact e2 u (by omega)
    subst hy
    refine m_opened hw M hl Sc (m_itself hw M ⟨by omega, ?_⟩)
    refine m_meet hw rfl hok S'.1 (t := ((sA _ l t.1.1, sE _), true)) (NS_open ht hl) (fun r sp2 n2 pl2 nd2 co2 si2 de2 lo2 I d1 d2 d3 => ?_)
    obtain ⟨c1, c2, c3⟩ := SN_next S' I d3
    have first : ∀ mo2, SN (syM wh n0 w0 n1 w1) wh b0 (fun m ns => (C m ns ∧ ∀ l', l' < l → NA (syM wh n0 w0 n1 w1) t l' m ns) ∧ m = n' ∧ ns = nd' ∧ ∃ i, i < n' ∧ nd' i = ((sA (syM wh n0 w0 n1 w1) l t.1.1, sE (syM wh n0 w0 n1 w1)), true)) mo2 sp2 n2 pl2 nd2 co2 si2 de2 lo2 → SN (syM wh n0 w0 n1 w1) wh b0 (fun m ns => (C m ns ∧ ∀ l', l' < l → NA (syM wh n0 w0 n1 w1) t l' m ns) ∧ ∃ i, i < m ∧ ns i = ((sA (syM wh n0 w0 n1 w1) l t.1.1, sE (syM wh n0 w0 n1 w1)), true)) mo2 sp2 n2 pl2 nd2 co2 si2 de2 lo2 := fun mo2 S2 => SN_mono S2 (fun _ ⟨e1, e4, e5, i, hi, ei⟩ => ⟨e1, i, by omega, by rw [e5]; exact ei⟩)
    refine ⟨fun g => ⟨fun g2 => ?_, fun g2 => ?_⟩, fun g => ?_⟩
    · subst g2
      exact second _ _ _ _ nd2 _ _ _ _ (first _ (c1 g)) d1 d2
    · have e : mo' = nI 1 := by
        rcases SN_mo S' with e | e
        · exact absurd e g2
        · exact e
      subst e
      exact second _ _ _ _ nd2 _ _ _ _ (first _ (c1 g)) d1 d2
    · have e : r = nI 1 := by
        rcases c3 with e | e
        · exact absurd e g
        · exact e
      exact second _ _ _ _ nd2 _ _ _ _ (c2 e _) d1 d2
/-- all that one sweep looks at behind node t -/
def CN (y : Sy) (wn : Nat) (xs : Nat → Nat) (t : Nd) (m : Nat) (ns : Nat → Nd) : Prop := (∀ l, 2 ≤ l → l < 4 → NB y t (sP y l) m ns) ∧ (∀ o, o < wn → ∀ v, v < 4 → NB y t (sB y (v / 2) (4 + v % 2) (xs o)) m ns) ∧ ∀ l, l < 2 → NA y t l m ns
theorem m_meetBehind (hw : wh < 3) (hy : y = syM wh n0 w0 n1 w1) (hok : SyOk y) (M : MdOk n0 m0 t0 w0 n1 m1 t1 w1 st mk tk pu go cl) {wn : Nat} {xs : Nat → Nat} {wo wl : Nat → Int32} (WW : WM y wh wn xs wo) {k : Nat} {sp pl : Int32} {n : Nat} {nd : Nat → Nd} {co si de lo : Nat → Int32} (I : NI y wh sp n pl nd co si de) (hsp : sp = nI 0) (hk : k < n)
    {K : Int32 → Int32 → Int32 → Int32 → (Nat → Int32) → (Nat → Int32) → (Nat → Int32) → (Nat → Int32) → Prop}
    (h : ∀ r sp' n' pl' nd' co' si' de' lo', NI y wh sp' n' pl' nd' co' si' de' → n ≤ n' → (∀ i, i < n → nd' i = nd i) → ((r = nI 0 ∧ mu 128 n' lo' = mu 128 n lo ∧ (sp' = nI 0 → n' = n ∧ nd' = nd ∧ CN y wn xs (nd k) n nd)) ∨ (r = nI 1 ∧ mu 128 n' lo' < mu 128 n lo)) → K r sp' (nI n') pl' co' si' de' lo') :
    wX12_meetBehind (nI wh) (nI k) sp (nI wn) (nI n) pl st mk pu go cl wo wl co si de lo K := by
  have hn := I.1.1
  obtain ⟨e1, e2, e3, ht⟩ := I.1.2.1 k hk
  unfold wX12_meetBehind
  rw [q_cl (show k < 2147483648 by omega), e1, e2]
  simp (disch := omega) only [q_lit, nI_add, pk_mul, q_a1, q_a3, q_a7, q_a31, q_a63, q_a255, q_a511, q_or, q_shr, q_shl, q_le, q_lt, q_eq, q_in, q_cl, q_neg, q_neg', q_nlt0, q_nle, q_nlt, q_nle', q_nlt', forall_eq, true_implies, false_implies, not_true_eq_false, not_false_eq_true, and_true, true_and, Nat.reduceMod, Nat.reducePow, Nat.reduceAdd, Nat.reduceMul, Nat.reduceDiv, Nat.reduceSub, Nat.reduceEqDiff, Nat.reduceLeDiff, Nat.reduceLT]
  refine ⟨by omega, by omega, ?_⟩
  refine m_L21 hw hy hok M (b0 := mu 128 n lo) (C := fun m ns => m = n ∧ ns = nd) (t := nd k) ⟨I, .inl ⟨rfl, rfl, fun _ => ⟨rfl, rfl⟩⟩⟩ hk rfl ht (fun mo2 sp2 n2 pl2 nd2 co2 si2 de2 lo2 S2 a1 a2 => ?_)
  intro E hE
  refine m_L90 hw hy hok M WW S2 (show k < n2 by omega) (a2 k hk) ht (fun i mo3 sp3 n3 pl3 nd3 co3 si3 de3 lo3 S3 b1 b2 => hE _ _ _ _ _ _ _ _ _ ?_)
  refine m_L207 hw hy hok M S3 (show k < n3 by omega) (by rw [b2 k (by omega), a2 k hk]) ht (fun mo4 sp4 n4 pl4 nd4 co4 si4 de4 lo4 S4 d1 d2 => ?_)
  refine ⟨by rcases SN_mo S4 with e | e <;> rw [e] <;> rfl, ?_⟩
  refine h _ _ n4 _ nd4 _ _ _ _ S4.1 (by omega) (fun i hi => by rw [d2 i (by omega), b2 i (by omega), a2 i hi]) ?_
  rcases S4.2 with ⟨f1, f2, f3⟩ | ⟨f1, f2⟩
  · refine .inl ⟨f1, f2, fun e => ?_⟩
    obtain ⟨⟨⟨⟨g1, g2⟩, g3⟩, g4⟩, g5⟩ := f3 e
    subst g1; subst g2
    exact ⟨rfl, rfl, g3, g4, g5⟩
  · exact .inr ⟨f1, f2⟩
theorem m_L67 (hw : wh < 3) (hy : y = syM wh n0 w0 n1 w1) (hok : SyOk y) (M : MdOk n0 m0 t0 w0 n1 m1 t1 w1 st mk tk pu go cl) {wn : Nat} {xs : Nat → Nat} {wo wl : Nat → Int32} (WW : WM y wh wn xs wo) {b0 : Nat} {mo sp pl : Int32} {n : Nat} {nd : Nat → Nd} {co si de lo : Nat → Int32} (S : SN y wh b0 (fun _ _ => True) mo sp n pl nd co si de lo)
    {E : Int32 → Int32 → Int32 → Int32 → Int32 → (Nat → Int32) → (Nat → Int32) → (Nat → Int32) → (Nat → Int32) → Prop}
    (h : ∀ i mo' sp' n' pl' nd' co' si' de' lo', SN y wh b0 (fun m ns => ∀ k, k < m → CN y wn xs (ns k) m ns) mo' sp' n' pl' nd' co' si' de' lo' → n ≤ n' → (∀ i, i < n → nd' i = nd i) → E mo' i sp' (nI n') pl' co' si' de' lo') :
    wX12_findPlaces_L67 (nI wh) st mk pu go cl (nI wn) wo wl E mo (nI 0) sp (nI n) pl co si de lo := by
  unfold wX12_findPlaces_L67
  intro P hP
  refine q_cnt0 (Q := fun k => ∀ mo' sp' n' pl' nd' co' si' de' lo', SN y wh b0 (fun m ns => ∀ k', k' < k → k' < m → CN y wn xs (ns k') m ns) mo' sp' n' pl' nd' co' si' de' lo' → n ≤ n' → (∀ i, i < n → nd' i = nd i) → P mo' (nI k) sp' (nI n') pl' co' si' de' lo') 120 ?_ ?_ mo sp n pl nd co si de lo (SN_mono S (fun _ _ => fun u hu => by omega)) (Nat.le_refl _) (fun _ _ => rfl)
  · intro mo' sp' n' pl' nd' co' si' de' lo' S' a1 a2
    have hn' := S'.1.1.1
    refine hP _ _ _ _ _ _ _ _ _ ?_
    simp (disch := omega) only [q_le]
    exact ⟨fun _ => h _ _ _ _ _ _ _ _ _ _ (SN_mono S' (fun _ c => fun k hk => c k (by omega) hk)) a1 a2, fun g => absurd hn' g⟩
  · intro k hk ih mo' sp' n' pl' nd' co' si' de' lo' S' a1 a2
    have hn' := S'.1.1.1
    refine hP _ _ _ _ _ _ _ _ _ ?_
    simp (disch := omega) only [q_le]
    refine ⟨fun g => h _ _ _ _ _ _ _ _ _ _ (SN_mono S' (fun _ c => fun k hk => c k (by omega) hk)) a1 a2, fun g => ⟨fun g0 => ?_, fun g0 => ?_⟩⟩
    · refine m_meetBehind hw hy hok M WW S'.1 g0 (show k < n' by omega) (fun r sp2 n2 pl2 nd2 co2 si2 de2 lo2 I b1 b2 b3 => ?_)
      have fin : ∀ mo2, SN y wh b0 (fun m ns => ∀ k', k' < k + 1 → k' < m → CN y wn xs (ns k') m ns) mo2 sp2 n2 pl2 nd2 co2 si2 de2 lo2 → P mo2 (nI (k + 1)) sp2 (nI n2) pl2 co2 si2 de2 lo2 := fun mo2 S2 => ih _ _ _ _ nd2 _ _ _ _ S2 (by omega) (fun i hi => by rw [b2 i (by omega), a2 i hi])
      have same : r = nI 0 → SN y wh b0 (fun m ns => ∀ k', k' < k + 1 → k' < m → CN y wn xs (ns k') m ns) mo' sp2 n2 pl2 nd2 co2 si2 de2 lo2 := fun e => by
        rcases b3 with ⟨_, c2, c3⟩ | ⟨c1, _⟩
        · refine ⟨I, ?_⟩
          rcases S'.2 with ⟨f1, f2, f3⟩ | ⟨f1, f2⟩
          · refine .inl ⟨f1, by omega, fun e0 => ?_⟩
            obtain ⟨d1, d2, d3⟩ := c3 e0
            subst d1; subst d2
            intro k' hk' hk2
            by_cases e : k' = k
            · subst e; exact d3
            · exact f3 g0 k' (by omega) hk2
          · exact .inr ⟨f1, by omega⟩
        · rw [c1] at e; exact absurd e (by decide)
      refine ⟨fun e => ⟨fun g2 => ?_, fun g2 => ?_⟩, fun e => ?_⟩
      · simp only [q_lit, nI_add, pk_mul, q_a1, q_a3, q_a7, q_a31, q_a63, q_a255, q_a511, q_or, q_shr, q_shl, q_le, q_lt, q_eq, q_in, q_cl, q_neg, q_neg', q_nlt0, q_nle, q_nlt, q_nle', q_nlt', forall_eq, true_implies, false_implies, not_true_eq_false, not_false_eq_true, and_true, true_and, Nat.reduceMod, Nat.reducePow, Nat.reduceAdd, Nat.reduceMul, Nat.reduceDiv, Nat.reduceSub, Nat.reduceEqDiff, Nat.reduceLeDiff, Nat.reduceLT]
        have e2 : mo' = nI 0 := g2
        subst e2
        exact fin _ (same e)
      · simp only [q_lit, nI_add, pk_mul, q_a1, q_a3, q_a7, q_a31, q_a63, q_a255, q_a511, q_or, q_shr, q_shl, q_le, q_lt, q_eq, q_in, q_cl, q_neg, q_neg', q_nlt0, q_nle, q_nlt, q_nle', q_nlt', forall_eq, true_implies, false_implies, not_true_eq_false, not_false_eq_true, and_true, true_and, Nat.reduceMod, Nat.reducePow, Nat.reduceAdd, Nat.reduceMul, Nat.reduceDiv, Nat.reduceSub, Nat.reduceEqDiff, Nat.reduceLeDiff, Nat.reduceLT]
        have e2 : mo' = nI 1 := by
          rcases SN_mo S' with e | e
          · exact absurd e g2
          · exact e
        subst e2
        exact fin _ (same e)
      · simp only [q_lit, nI_add, pk_mul, q_a1, q_a3, q_a7, q_a31, q_a63, q_a255, q_a511, q_or, q_shr, q_shl, q_le, q_lt, q_eq, q_in, q_cl, q_neg, q_neg', q_nlt0, q_nle, q_nlt, q_nle', q_nlt', forall_eq, true_implies, false_implies, not_true_eq_false, not_false_eq_true, and_true, true_and, Nat.reduceMod, Nat.reducePow, Nat.reduceAdd, Nat.reduceMul, Nat.reduceDiv, Nat.reduceSub, Nat.reduceEqDiff, Nat.reduceLeDiff, Nat.reduceLT]
        refine fin _ ⟨I, .inr ⟨rfl, ?_⟩⟩
        rcases b3 with ⟨c1, _⟩ | ⟨_, c2⟩
        · exact absurd c1 e
        · rcases S'.2 with ⟨f1, f2, f3⟩ | ⟨f1, f2⟩ <;> omega
    · have e1 := NI_sp S'.1 g0
      refine h _ _ _ _ _ _ _ _ _ _ (SN_mono S' (fun e => ?_)) a1 a2
      rw [e1] at e; exact absurd e (by decide)
theorem CN_Enum {wn : Nat} {xs : Nat → Nat} (hE : Enum (WS y) xs wn) {n : Nat} {nd : Nat → Nd} {co si de : Nat → Int32} (W : WN y wh n nd co si de) (h0 : 1 ≤ n ∧ nd 0 = ((s0 y, sE y), false)) (h : ∀ k, k < n → CN y wn xs (nd k) n nd) : Enum (NSt y) nd n := by
  obtain ⟨a1, a2, a3⟩ := W
  refine ⟨fun i hi => (a2 i hi).2.2.2, a3, fun t ht => ?_⟩
  have := ht (fun c x d => ∃ i, i < n ∧ nd i = ((c, x), d)) ⟨0, by omega, h0.2⟩ (fun c x d s ⟨k, hk, ek⟩ hs => ?_) (fun c x d l hl ⟨k, hk, ek⟩ => ?_) (fun c x l h4 h6 ⟨k, hk, ek⟩ => ?_)
  · exact this
  · obtain ⟨c1, c2, _⟩ := h k hk
    rw [ek] at c1 c2
    rcases hs with e | e | ⟨a, e', o, g1, g2, g3, ho, e⟩
    · rw [e]; exact c1 2 (by omega) (by omega)
    · rw [e]; exact c1 3 (by omega) (by omega)
    · obtain ⟨i, hi, ei⟩ := hE.2.2 o ho
      have := c2 i hi (2 * a + (e' - 4)) (by omega)
      rw [show (2 * a + (e' - 4)) / 2 = a from by omega, show 4 + (2 * a + (e' - 4)) % 2 = e' from by omega, ei] at this
      rw [e]; exact this
  · obtain ⟨_, _, c3⟩ := h k hk
    rw [ek] at c3
    exact (c3 l hl).1
  · obtain ⟨_, _, c3⟩ := h k hk
    rw [ek] at c3
    have := (c3 (l - 4) (by omega)).2 rfl
    rw [show 4 + (l - 4) = l from by omega] at this
    exact this
/-- the reference's places of one question -/
def FPok (y : Sy) (wh : Nat) (sp wz nz pz : Int32) (wo co si de : Nat → Int32) : Prop :=
  (sp = nI 1 ∧ Big (PS y)) ∨ (sp = nI 0 ∧ ∃ wn xs n nd p, wz = nI wn ∧ nz = nI n ∧ pz = nI p ∧ p ≤ 60 ∧ WM y wh wn xs wo ∧ Enum (WS y) xs wn ∧ WN y wh n nd co si de ∧ 1 ≤ n ∧ nd 0 = ((s0 y, sE y), false) ∧ Enum (NSt y) nd n ∧ ∃ f, Enum (PS y) f p)
theorem m_findPlaces (hw : wh < 3) (hy : y = syM wh n0 w0 n1 w1) (M : MdOk n0 m0 t0 w0 n1 m1 t1 w1 st mk tk pu go cl) {kn sp wz nz pz : Int32} {wo wl co si de lo : Nat → Int32} (hk : kn = nI wh → FPok y wh sp wz nz pz wo co si de) {K : Int32 → Int32 → Int32 → Int32 → Int32 → (Nat → Int32) → (Nat → Int32) → (Nat → Int32) → (Nat → Int32) → (Nat → Int32) → (Nat → Int32) → Prop}
    (h : ∀ sp wz nz pz wo wl co si de lo, FPok y wh sp wz nz pz wo co si de → K (nI wh) sp wz nz pz wo wl co si de lo) :
    wX12_findPlaces (nI wh) kn sp wz nz pz st mk pu go cl wo wl co si de lo K := by
  have hok : SyOk y := by rw [hy]; exact syM_ok hw M
  unfold wX12_findPlaces
  refine ⟨fun g => by subst g; exact h _ _ _ _ _ _ _ _ _ _ (hk rfl), fun _ => ?_⟩
  refine m_findWholes hw hy M (fun sp1 wn xs wo1 wl1 WW hsp1 hWE => ?_)
  have mb : ∀ {K : Int32 → Prop}, K (nI (ps wh (s0 y))) → wX12_begun (nI wh) K := fun h => by rw [hy] at h; exact m_begun hw M h
  have mi : ∀ {K : Int32 → Prop}, K (nI (ph wh (sE y))) → wX12_itself (nI wh) st K := fun h => by rw [hy] at h; exact m_itself hw M h
  refine mb (mi ?_)
  have I0 : NI y wh sp1 0 (nI 0) (fun _ => ((s0 y, sE y), false)) co si de := by
    refine ⟨⟨by omega, fun i hi => by omega, fun i j hi => by omega⟩, ?_⟩
    rcases hsp1 with e | ⟨e, hB⟩
    · exact .inl ⟨e, 0, rfl, by omega, fun _ => (0, 0), fun i hi => by omega, fun i j hi => by omega, fun x ⟨i, hi, _⟩ => by omega⟩
    · exact .inr ⟨e, Big_W hok hB⟩
  refine m_meet hw hy hok I0 (t := ((s0 y, sE y), false)) (NS_0 y) (fun r sp2 n2 pl2 nd2 co2 si2 de2 lo2 I2 a1 a2 a3 => ?_)
  intro E hE
  unfold wX12_findPlaces_L52
  intro P hP
  have st0 : sp2 = nI 0 → sp1 = nI 0 ∧ 1 ≤ n2 ∧ nd2 0 = ((s0 y, sE y), false) := fun e => by
    rcases a3 with ⟨_, c2, c3, c4, c5⟩ | ⟨_, c2, c3, c4, i, hi, ei⟩
    · obtain ⟨_, i, hi, _⟩ := c5 e
      omega
    · have : i = 0 := by omega
      subst this
      exact ⟨c4 e, by omega, ei⟩
  have L : ∀ (b : Nat) mo sp n pl nd co' si' de' lo', mu 128 n lo' ≤ b → NI y wh sp n pl nd co' si' de' → (sp = nI 0 → sp1 = nI 0 ∧ 1 ≤ n ∧ nd 0 = ((s0 y, sE y), false)) → ((mo = nI 0 ∧ (sp = nI 0 → Enum (NSt y) nd n)) ∨ mo = nI 1) → P mo sp (nI n) pl co' si' de' lo' := by
    intro b
    induction b using Nat.strongRecOn with
    | ind b ih =>
      intro mo sp n pl nd co' si' de' lo' hb I hst hm
      have out : (sp = nI 0 → Enum (NSt y) nd n) → K (nI wh) sp (nI wn) (nI n) pl wo1 wl1 co' si' de' lo' := fun hEn => by
        refine h _ _ _ _ _ _ _ _ _ _ ?_
        rcases I.2 with ⟨e, p, ep, hp, hWP⟩ | ⟨e, hB⟩
        · obtain ⟨e1, s1, s2⟩ := hst e
          have hN := hEn e
          obtain ⟨f, hf⟩ := hWP
          refine .inr ⟨e, wn, xs, n, nd, p, rfl, rfl, ep, hp, WW, hWE e1, I.1, s1, s2, hN, f, Enum_congr hf fun q => ⟨fun ⟨i, hi, ei⟩ => ?_, fun ⟨d, hd⟩ => ?_⟩⟩
          · rw [← ei]; exact ⟨_, hN.1 i hi⟩
          · obtain ⟨i, hi, ei⟩ := hN.2.2 (q, d) hd
            exact ⟨i, hi, by rw [ei]⟩
        · exact .inl ⟨e, hB⟩
      refine hP _ _ _ _ _ _ _ _ ?_
      refine ⟨fun g => hE _ _ _ _ _ _ _ _ (out ?_), fun g => ⟨fun g0 => ?_, fun g0 => hE _ _ _ _ _ _ _ _ (out (fun e => absurd e g0))⟩⟩
      · rcases hm with ⟨_, h2⟩ | h1
        · exact h2
        · rw [h1] at g; exact absurd g (by decide)
      · intro E2 hE2
        refine m_L67 hw hy hok M WW (b0 := mu 128 n lo') (mo := nI 0) ⟨I, .inl ⟨rfl, rfl, fun _ => trivial⟩⟩ (fun i mo' sp' n' pl' nd' co2 si2 de2 lo2 S' d1 d2 => hE2 _ _ _ _ _ _ _ _ _ ?_)
        obtain ⟨I', hm'⟩ := S'
        obtain ⟨k1, k2, k3⟩ := hst g0
        have hst' : sp' = nI 0 → sp1 = nI 0 ∧ 1 ≤ n' ∧ nd' 0 = ((s0 y, sE y), false) := fun _ => ⟨k1, by omega, by rw [d2 0 (by omega)]; exact k3⟩
        rcases hm' with ⟨h1, h2, h3⟩ | ⟨h1, h2⟩
        · subst h1
          refine hP _ _ _ _ _ _ _ _ ⟨fun _ => hE _ _ _ _ _ _ _ _ ?_, fun g => absurd rfl g⟩
          refine h _ _ _ _ _ _ _ _ _ _ ?_
          rcases I'.2 with ⟨e, p, ep, hp, hWP⟩ | ⟨e, hB⟩
          · obtain ⟨e1, s1, s2⟩ := hst' e
            have hN := CN_Enum (hWE e1) I'.1 ⟨s1, s2⟩ (h3 e)
            obtain ⟨f, hf⟩ := hWP
            refine .inr ⟨e, wn, xs, n', nd', p, rfl, rfl, ep, hp, WW, hWE e1, I'.1, s1, s2, hN, f, Enum_congr hf fun q => ⟨fun ⟨i, hi, ei⟩ => ?_, fun ⟨d, hd⟩ => ?_⟩⟩
            · rw [← ei]; exact ⟨_, hN.1 i hi⟩
            · obtain ⟨i, hi, ei⟩ := hN.2.2 (q, d) hd
              exact ⟨i, hi, by rw [ei]⟩
          · exact .inl ⟨e, hB⟩
        · exact ih (mu 128 n' lo2) (by omega) mo' sp' n' pl' nd' co2 si2 de2 lo2 (Nat.le_refl _) I' hst' (.inr h1)
  exact L _ (nI 1) sp2 n2 pl2 nd2 co2 si2 de2 lo2 (Nat.le_refl _) I2 st0 (.inr rfl)
end
