def SN (y : Sy) (wh b0 : Nat) (C : Nat → (Nat → Nd) → Prop) (mo sp : Int32) (n : Nat) (pl : Int32) (nd : Nat → Nd) (co si de lo : Nat → Int32) : Prop :=
  NI y wh sp n pl nd co si de ∧ ((mo = nI 0 ∧ mu 128 n lo = b0 ∧ (sp = nI 0 → C n nd)) ∨ (mo = nI 1 ∧ mu 128 n lo < b0))
theorem SN_mono {y : Sy} {wh b0 : Nat} {C C' : Nat → (Nat → Nd) → Prop} {mo sp : Int32} {n : Nat} {pl : Int32} {nd : Nat → Nd} {co si de lo : Nat → Int32} (S : SN y wh b0 C mo sp n pl nd co si de lo) (h : sp = nI 0 → C n nd → C' n nd) : SN y wh b0 C' mo sp n pl nd co si de lo := by
  obtain ⟨a, b⟩ := S
  refine ⟨a, ?_⟩
  rcases b with ⟨c1, c2, c3⟩ | c
  · exact .inl ⟨c1, c2, fun e => h e (c3 e)⟩
  · exact .inr c
theorem SN_mo {y : Sy} {wh b0 : Nat} {C : Nat → (Nat → Nd) → Prop} {mo sp : Int32} {n : Nat} {pl : Int32} {nd : Nat → Nd} {co si de lo : Nat → Int32} (S : SN y wh b0 C mo sp n pl nd co si de lo) : mo = nI 0 ∨ mo = nI 1 := by
  rcases S.2 with ⟨h, _⟩ | ⟨h, _⟩
  · exact .inl h
  · exact .inr h
theorem NI_sp {y : Sy} {wh : Nat} {sp : Int32} {n : Nat} {pl : Int32} {nd : Nat → Nd} {co si de : Nat → Int32} (I : NI y wh sp n pl nd co si de) (g : ¬ sp = 0) : sp = nI 1 := by
  rcases I.2 with ⟨h, _⟩ | ⟨h, _⟩
  · exact absurd h g
  · exact h
/-- what a meeting leaves of a sweep -/
theorem SN_next {y : Sy} {wh b0 : Nat} {C : Nat → (Nat → Nd) → Prop} {mo sp : Int32} {n : Nat} {pl : Int32} {nd : Nat → Nd} {co si de lo : Nat → Int32} (S : SN y wh b0 C mo sp n pl nd co si de lo) {r sp' : Int32} {n' : Nat} {pl' : Int32} {nd' : Nat → Nd} {co' si' de' lo' : Nat → Int32} {Q R : Prop} (I : NI y wh sp' n' pl' nd' co' si' de')
    (hr : (r = nI 0 ∧ n' = n ∧ nd' = nd ∧ mu 128 n' lo' = mu 128 n lo ∧ (sp' = nI 0 → sp = nI 0 ∧ Q)) ∨ (r = nI 1 ∧ mu 128 n' lo' < mu 128 n lo ∧ R)) :
    (r = nI 0 → SN y wh b0 (fun m ns => C m ns ∧ m = n ∧ ns = nd ∧ Q) mo sp' n' pl' nd' co' si' de' lo') ∧ (r = nI 1 → ∀ C', SN y wh b0 C' (nI 1) sp' n' pl' nd' co' si' de' lo') ∧ (r = nI 0 ∨ r = nI 1) := by
  obtain ⟨_, hm⟩ := S
  refine ⟨fun e => ?_, fun e C' => ?_, ?_⟩
  · rcases hr with ⟨_, h2, h3, h4, h5⟩ | ⟨h1, _⟩
    · subst h2; subst h3
      refine ⟨I, ?_⟩
      rcases hm with ⟨c1, c2, c3⟩ | ⟨c1, c2⟩
      · exact .inl ⟨c1, by omega, fun e => ⟨c3 (h5 e).1, rfl, rfl, (h5 e).2⟩⟩
      · exact .inr ⟨c1, by omega⟩
    · rw [h1] at e; exact absurd e (by decide)
  · rcases hr with ⟨h1, _⟩ | ⟨_, h2, _⟩
    · rw [h1] at e; exact absurd e (by decide)
    · refine ⟨I, .inr ⟨rfl, ?_⟩⟩
      rcases hm with ⟨c1, c2, c3⟩ | ⟨c1, c2⟩ <;> omega
  · rcases hr with ⟨h, _⟩ | ⟨h, _⟩
    · exact .inl h
    · exact .inr h
section
variable {y : Sy} {wh n0 m0 t0 n1 m1 t1 : Nat} {w0 w1 : Nat → Nat} {st mk tk pu go cl : Nat → Int32}
theorem m_meet1 (hw : wh < 3) (hy : y = syM wh n0 w0 n1 w1) (hok : SyOk y) {b0 : Nat} {C : Nat → (Nat → Nd) → Prop} {mo sp pl : Int32} {n : Nat} {nd : Nat → Nd} {co si de lo : Nat → Int32} (S : SN y wh b0 C mo sp n pl nd co si de lo) {t : Nd} (ht : NSt y t) {len : Int32} {K : Int32 → Int32 → Int32 → Int32 → (Nat → Int32) → (Nat → Int32) → (Nat → Int32) → (Nat → Int32) → Prop}
    (h : ∀ mo' sp' n' pl' nd' co' si' de' lo', SN y wh b0 (fun m ns => C m ns ∧ m = n ∧ ns = nd ∧ ∃ i, i < n ∧ nd i = t) mo' sp' n' pl' nd' co' si' de' lo' → n ≤ n' → (∀ i, i < n → nd' i = nd i) → K mo' sp' (nI n') pl' co' si' de' lo') :
    wX12_meetNode (nI (ps wh t.1.1)) (nI (ph wh t.1.2)) (nI (bI t.2)) len sp (nI n) pl co si de lo (fun r u9 u10 u11 u12 u13 u14 u15 => ((r = (0 : Int32) → ((mo = (0 : Int32) → K (0 : Int32) u9 u10 u11 u12 u13 u14 u15) ∧ (¬ mo = (0 : Int32) → K (1 : Int32) u9 u10 u11 u12 u13 u14 u15))) ∧ (¬ r = (0 : Int32) → K (1 : Int32) u9 u10 u11 u12 u13 u14 u15))) := by
  refine m_meet hw hy hok S.1 ht (fun r sp' n' pl' nd' co' si' de' lo' I a1 a2 a3 => ?_)
  obtain ⟨b1, b2, b3⟩ := SN_next S I a3
  refine ⟨fun g => ⟨fun g2 => ?_, fun g2 => ?_⟩, fun g => ?_⟩
  · have e : mo = nI 0 := g2
    subst e
    exact h _ _ _ _ _ _ _ _ _ (b1 g) a1 a2
  · have e : mo = nI 1 := by
      rcases SN_mo S with e | e
      · exact absurd e g2
      · exact e
    subst e
    exact h _ _ _ _ _ _ _ _ _ (b1 g) a1 a2
  · have e : r = nI 1 := by
      rcases b3 with e | e
      · exact absurd e g
      · exact e
    exact h _ _ _ _ _ _ _ _ _ (b2 e _) a1 a2
/-- what stands behind node t by a step s -/
def NB (y : Sy) (t : Nd) (s m : Nat) (ns : Nat → Nd) : Prop := ∃ i, i < m ∧ ns i = ((imc t.1.1 s, thn t.1.2 s), t.2)
theorem m_L21 (hw : wh < 3) (hy : y = syM wh n0 w0 n1 w1) (hok : SyOk y) (M : MdOk n0 m0 t0 w0 n1 m1 t1 w1 st mk tk pu go cl) {b0 k : Nat} {C : Nat → (Nat → Nd) → Prop} {mo sp pl : Int32} {n : Nat} {nd : Nat → Nd} {co si de lo : Nat → Int32} (S : SN y wh b0 C mo sp n pl nd co si de lo) (hk : k < n) {t : Nd} (et : nd k = t) (ht : NSt y t)
    {E : Int32 → Int32 → Int32 → Int32 → Int32 → (Nat → Int32) → (Nat → Int32) → (Nat → Int32) → (Nat → Int32) → Prop}
    (h : ∀ mo' sp' n' pl' nd' co' si' de' lo', SN y wh b0 (fun m ns => C m ns ∧ ∀ l, 2 ≤ l → l < 4 → NB y t (sP y l) m ns) mo' sp' n' pl' nd' co' si' de' lo' → n ≤ n' → (∀ i, i < n → nd' i = nd i) → E mo' (nI 4) sp' (nI n') pl' co' si' de' lo') :
    wX12_meetBehind_L21 (nI wh) (nI k) go (nI (ps wh t.1.1)) (nI (ph wh t.1.2)) E mo (nI 2) sp (nI n) pl co si de lo := by
  unfold wX12_meetBehind_L21
  intro P hP
  refine q_cnt (Q := fun l => 2 ≤ l → ∀ mo' sp' n' pl' nd' co' si' de' lo', SN y wh b0 (fun m ns => C m ns ∧ ∀ l', 2 ≤ l' → l' < l → NB y t (sP y l') m ns) mo' sp' n' pl' nd' co' si' de' lo' → n ≤ n' → (∀ i, i < n → nd' i = nd i) → P mo' (nI l) sp' (nI n') pl' co' si' de' lo') (N := 4) ?_ ?_ 2 (by omega) (Nat.le_refl _) mo sp n pl nd co si de lo (SN_mono S (fun _ c => ⟨c, fun u h1 h2 => by omega⟩)) (Nat.le_refl _) (fun _ _ => rfl)
  · intro _ mo' sp' n' pl' nd' co' si' de' lo' S' a1 a2
    refine hP _ _ _ _ _ _ _ _ _ ?_
    simp (disch := omega) only [q_lit, nI_add, pk_mul, q_a1, q_a3, q_a7, q_a31, q_a63, q_a255, q_a511, q_or, q_shr, q_shl, q_le, q_lt, q_eq, q_in, q_cl, q_neg, q_neg', q_nlt0, q_nle, q_nlt, q_nle', q_nlt', forall_eq, true_implies, false_implies, not_true_eq_false, not_false_eq_true, and_true, true_and, Nat.reduceMod, Nat.reducePow, Nat.reduceAdd, Nat.reduceMul, Nat.reduceDiv, Nat.reduceSub, Nat.reduceEqDiff, Nat.reduceLeDiff, Nat.reduceLT, Nat.le_refl]
    exact h _ _ _ _ _ _ _ _ _ S' a1 a2
  · intro l hl ih h2 mo' sp' n' pl' nd' co' si' de' lo' S' a1 a2
    refine hP _ _ _ _ _ _ _ _ _ ?_
    have W' := S'.1.1
    have ek := (W'.2.1 k (by omega)).2.2.1
    rw [a2 k hk, et] at ek
    have hn' := W'.1
    have Rx := WS_R2 hok (NS_WS hok ht)
    have Sc := NS_S2 hok ht
    have Rb : R2 y (sP y l) := R2_P hok _
    have sl : stpS y (WS y) (sP y l) := by
      have : l = 2 ∨ l = 3 := by omega
      rcases this with rfl | rfl
      · exact .inl rfl
      · exact .inr (.inl rfl)
    rw [q_cl (show k < 2147483648 by omega), ek]
    simp (disch := omega) only [q_lit, nI_add, pk_mul, q_a1, q_a3, q_a7, q_a31, q_a63, q_a255, q_a511, q_or, q_shr, q_shl, q_le, q_lt, q_eq, q_in, q_cl, q_neg, q_neg', q_nlt0, q_nle, q_nlt, q_nle', q_nlt', forall_eq, true_implies, false_implies, not_true_eq_false, not_false_eq_true, and_true, true_and, Nat.reduceMod, Nat.reducePow, Nat.reduceAdd, Nat.reduceMul, Nat.reduceDiv, Nat.reduceSub, Nat.reduceEqDiff, Nat.reduceLeDiff, Nat.reduceLT]
    subst hy
    refine ⟨fun g => absurd g (by omega), fun _ => m_plain hw M h2 hl (m_image hw Sc Rb (m_follow hw Rx Rb ⟨by omega, by omega, ?_⟩))⟩
    refine m_meet1 hw rfl hok S' (t := ((imc t.1.1 _, thn t.1.2 _), t.2)) (NS_stp ht sl) (K := fun mo' u9 u10 u11 u12 u13 u14 u15 => P mo' (nI (l + 1)) u9 u10 u11 u12 u13 u14 u15) (fun mo2 sp2 n2 pl2 nd2 co2 si2 de2 lo2 S2 b1 b2 => ?_)
    refine ih (by omega) _ _ _ _ nd2 _ _ _ _ (SN_mono S2 (fun _ ⟨⟨c1, c2⟩, c3, c4, c5⟩ => ⟨c1, fun u h1 hu => ?_⟩)) (by omega) (fun i hi => by rw [b2 i (by omega), a2 i hi])
    by_cases e : u = l
    · subst e
      obtain ⟨i, hi, ei⟩ := c5
      exact ⟨i, by omega, by rw [c4]; exact ei⟩
    · exact c2 u h1 (by omega)
theorem m_L109 (hw : wh < 3) (hy : y = syM wh n0 w0 n1 w1) (hok : SyOk y) (M : MdOk n0 m0 t0 w0 n1 m1 t1 w1 st mk tk pu go cl) {wn o : Nat} {xs : Nat → Nat} {wo wl : Nat → Int32} (WW : WM y wh wn xs wo) (ho : o < wn) {b0 k : Nat} {C : Nat → (Nat → Nd) → Prop} {mo sp pl : Int32} {n : Nat} {nd : Nat → Nd} {co si de lo : Nat → Int32} (S : SN y wh b0 C mo sp n pl nd co si de lo) (hk : k < n) {t : Nd} (et : nd k = t) (ht : NSt y t)
    {E : Int32 → Int32 → Int32 → Int32 → Int32 → (Nat → Int32) → (Nat → Int32) → (Nat → Int32) → (Nat → Int32) → Prop}
    (h : ∀ mo' sp' n' pl' nd' co' si' de' lo', SN y wh b0 (fun m ns => C m ns ∧ ∀ v, v < 4 → NB y t (sB y (v / 2) (4 + v % 2) (xs o)) m ns) mo' sp' n' pl' nd' co' si' de' lo' → n ≤ n' → (∀ i, i < n → nd' i = nd i) → E mo' (nI 4) sp' (nI n') pl' co' si' de' lo') :
    wX12_meetBehind_L109 (nI wh) (nI k) mk pu cl wo wl (nI (ps wh t.1.1)) (nI (ph wh t.1.2)) (nI o) E mo (nI 0) sp (nI n) pl co si de lo := by
  obtain ⟨_, hwn, _, w4, _⟩ := id WW
  obtain ⟨oo1, oo2⟩ := w4 o ho
  unfold wX12_meetBehind_L109
  intro P hP
  refine q_cnt0 (Q := fun v => ∀ mo' sp' n' pl' nd' co' si' de' lo', SN y wh b0 (fun m ns => C m ns ∧ ∀ u, u < v → NB y t (sB y (u / 2) (4 + u % 2) (xs o)) m ns) mo' sp' n' pl' nd' co' si' de' lo' → n ≤ n' → (∀ i, i < n → nd' i = nd i) → P mo' (nI v) sp' (nI n') pl' co' si' de' lo') 4 ?_ ?_ mo sp n pl nd co si de lo (SN_mono S (fun _ c => ⟨c, fun u h1 => by omega⟩)) (Nat.le_refl _) (fun _ _ => rfl)
  · intro mo' sp' n' pl' nd' co' si' de' lo' S' a1 a2
    refine hP _ _ _ _ _ _ _ _ _ ?_
    simp (disch := omega) only [q_lit, nI_add, pk_mul, q_a1, q_a3, q_a7, q_a31, q_a63, q_a255, q_a511, q_or, q_shr, q_shl, q_le, q_lt, q_eq, q_in, q_cl, q_neg, q_neg', q_nlt0, q_nle, q_nlt, q_nle', q_nlt', forall_eq, true_implies, false_implies, not_true_eq_false, not_false_eq_true, and_true, true_and, Nat.reduceMod, Nat.reducePow, Nat.reduceAdd, Nat.reduceMul, Nat.reduceDiv, Nat.reduceSub, Nat.reduceEqDiff, Nat.reduceLeDiff, Nat.reduceLT, Nat.le_refl]
    exact h _ _ _ _ _ _ _ _ _ S' a1 a2
  · intro v hv ih mo' sp' n' pl' nd' co' si' de' lo' S' a1 a2
    refine hP _ _ _ _ _ _ _ _ _ ?_
    have W' := S'.1.1
    have ek := (W'.2.1 k (by omega)).2.2.1
    rw [a2 k hk, et] at ek
    have hn' := W'.1
    have h2v : v / 2 < 2 := by omega
    have Rx := WS_R2 hok (NS_WS hok ht)
    have Sc := NS_S2 hok ht
    have Ro := WS_R2 hok oo2
    have Rb : R2 y (sB y (v / 2) (4 + v % 2) (xs o)) := R2_B hok _ _ _
    rw [q_cl (show k < 2147483648 by omega), q_cl (show o < 2147483648 by omega), ek, oo1]
    simp (disch := omega) only [q_lit, nI_add, pk_mul, q_a1, q_a3, q_a7, q_a31, q_a63, q_a255, q_a511, q_or, q_shr, q_shl, q_le, q_lt, q_eq, q_in, q_cl, q_neg, q_neg', q_nlt0, q_nle, q_nlt, q_nle', q_nlt', forall_eq, true_implies, false_implies, not_true_eq_false, not_false_eq_true, and_true, true_and, Nat.reduceMod, Nat.reducePow, Nat.reduceAdd, Nat.reduceMul, Nat.reduceDiv, Nat.reduceSub, Nat.reduceEqDiff, Nat.reduceLeDiff, Nat.reduceLT, q_divN, q_remN']
    subst hy
    refine ⟨fun g => absurd g (by omega), fun _ => ⟨by omega, m_block hw M h2v (by omega) (by omega) Ro (m_image hw Sc Rb (m_follow hw Rx Rb ⟨by omega, by omega, by omega, ?_⟩))⟩⟩
    refine m_meet1 hw rfl hok S' (t := ((imc t.1.1 _, thn t.1.2 _), t.2)) (NS_stp ht (.inr (.inr ⟨v / 2, 4 + v % 2, xs o, h2v, by omega, by omega, oo2, rfl⟩))) (K := fun mo' u9 u10 u11 u12 u13 u14 u15 => P mo' (nI (v + 1)) u9 u10 u11 u12 u13 u14 u15) (fun mo2 sp2 n2 pl2 nd2 co2 si2 de2 lo2 S2 b1 b2 => ?_)
    refine ih _ _ _ _ nd2 _ _ _ _ (SN_mono S2 (fun _ ⟨⟨c1, c2⟩, c3, c4, c5⟩ => ⟨c1, fun u hu => ?_⟩)) (by omega) (fun i hi => by rw [b2 i (by omega), a2 i hi])
    by_cases e : u = v
    · subst e
      obtain ⟨i, hi, ei⟩ := c5
      exact ⟨i, by omega, by rw [c4]; exact ei⟩
    · exact c2 u (by omega)
theorem m_L90 (hw : wh < 3) (hy : y = syM wh n0 w0 n1 w1) (hok : SyOk y) (M : MdOk n0 m0 t0 w0 n1 m1 t1 w1 st mk tk pu go cl) {wn : Nat} {xs : Nat → Nat} {wo wl : Nat → Int32} (WW : WM y wh wn xs wo) {b0 k : Nat} {C : Nat → (Nat → Nd) → Prop} {mo sp pl : Int32} {n : Nat} {nd : Nat → Nd} {co si de lo : Nat → Int32} (S : SN y wh b0 C mo sp n pl nd co si de lo) (hk : k < n) {t : Nd} (et : nd k = t) (ht : NSt y t)
    {E : Int32 → Int32 → Int32 → Int32 → Int32 → (Nat → Int32) → (Nat → Int32) → (Nat → Int32) → (Nat → Int32) → Prop}
    (h : ∀ i mo' sp' n' pl' nd' co' si' de' lo', SN y wh b0 (fun m ns => C m ns ∧ ∀ o, o < wn → ∀ v, v < 4 → NB y t (sB y (v / 2) (4 + v % 2) (xs o)) m ns) mo' sp' n' pl' nd' co' si' de' lo' → n ≤ n' → (∀ i, i < n → nd' i = nd i) → E mo' i sp' (nI n') pl' co' si' de' lo') :
    wX12_meetBehind_L90 (nI wh) (nI k) (nI wn) mk pu cl wo wl (nI (ps wh t.1.1)) (nI (ph wh t.1.2)) E mo (nI 0) sp (nI n) pl co si de lo := by
  have hwn := WW.2.1
  unfold wX12_meetBehind_L90
  intro P hP
  refine q_cnt0 (Q := fun o => ∀ mo' sp' n' pl' nd' co' si' de' lo', SN y wh b0 (fun m ns => C m ns ∧ ∀ o', o' < o → ∀ v, v < 4 → NB y t (sB y (v / 2) (4 + v % 2) (xs o')) m ns) mo' sp' n' pl' nd' co' si' de' lo' → n ≤ n' → (∀ i, i < n → nd' i = nd i) → P mo' (nI o) sp' (nI n') pl' co' si' de' lo') wn ?_ ?_ mo sp n pl nd co si de lo (SN_mono S (fun _ c => ⟨c, fun u h1 => by omega⟩)) (Nat.le_refl _) (fun _ _ => rfl)
  · intro mo' sp' n' pl' nd' co' si' de' lo' S' a1 a2
    refine hP _ _ _ _ _ _ _ _ _ ?_
    simp (disch := omega) only [q_lit, nI_add, pk_mul, q_a1, q_a3, q_a7, q_a31, q_a63, q_a255, q_a511, q_or, q_shr, q_shl, q_le, q_lt, q_eq, q_in, q_cl, q_neg, q_neg', q_nlt0, q_nle, q_nlt, q_nle', q_nlt', forall_eq, true_implies, false_implies, not_true_eq_false, not_false_eq_true, and_true, true_and, Nat.reduceMod, Nat.reducePow, Nat.reduceAdd, Nat.reduceMul, Nat.reduceDiv, Nat.reduceSub, Nat.reduceEqDiff, Nat.reduceLeDiff, Nat.reduceLT, Nat.le_refl]
    exact h _ _ _ _ _ _ _ _ _ _ S' a1 a2
  · intro o ho ih mo' sp' n' pl' nd' co' si' de' lo' S' a1 a2
    refine hP _ _ _ _ _ _ _ _ _ ?_
    simp (disch := omega) only [q_le]
    refine ⟨fun g => absurd g (by omega), fun _ => ⟨fun g0 => ?_, fun g0 => ?_⟩⟩
    · refine m_L109 hw hy hok M WW ho S' (show k < n' by omega) (by rw [a2 k hk]; exact et) ht (fun mo2 sp2 n2 pl2 nd2 co2 si2 de2 lo2 S2 b1 b2 => ?_)
      simp only [q_lit, nI_add, pk_mul, q_a1, q_a3, q_a7, q_a31, q_a63, q_a255, q_a511, q_or, q_shr, q_shl, q_le, q_lt, q_eq, q_in, q_cl, q_neg, q_neg', q_nlt0, q_nle, q_nlt, q_nle', q_nlt', forall_eq, true_implies, false_implies, not_true_eq_false, not_false_eq_true, and_true, true_and, Nat.reduceMod, Nat.reducePow, Nat.reduceAdd, Nat.reduceMul, Nat.reduceDiv, Nat.reduceSub, Nat.reduceEqDiff, Nat.reduceLeDiff, Nat.reduceLT]
      refine ih _ _ _ _ nd2 _ _ _ _ (SN_mono S2 (fun _ ⟨⟨c1, c2⟩, c3⟩ => ⟨c1, fun o' ho' => ?_⟩)) (by omega) (fun i hi => by rw [b2 i (by omega), a2 i hi])
      by_cases e : o' = o
      · subst e; exact c3
      · exact c2 o' (by omega)
    · have e1 := NI_sp S'.1 g0
      refine h _ _ _ _ _ _ _ _ _ _ (SN_mono S' (fun e => ?_)) a1 a2
      rw [e1] at e; exact absurd e (by decide)
end
