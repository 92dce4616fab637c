theorem SW_mono {y : Sy} {wh b0 : Nat} {C C' : Nat → (Nat → Nat) → Prop} {mo sp : Int32} {n : Nat} {xs : Nat → Nat} {wo wl : Nat → Int32} (S : SW y wh b0 C mo sp n xs wo wl) (h : sp = nI 0 → C n xs → C' n xs) : SW y wh b0 C' mo sp n xs wo wl := by
  obtain ⟨a, b, c⟩ := S
  refine ⟨a, b, ?_⟩
  rcases c with ⟨c1, c2, c3⟩ | c
  · exact .inl ⟨c1, c2, fun e => h e (c3 e)⟩
  · exact .inr c
theorem sp_01 {y : Sy} {sp : Int32} (h : SpB y sp) (g : ¬ sp = 0) : sp = nI 1 := by
  rcases h with h | ⟨h, _⟩
  · exact absurd h g
  · exact h
section
variable {y : Sy} {wh n0 m0 t0 n1 m1 t1 : Nat} {w0 w1 : Nat → Nat} {st mk tk pu go cl : Nat → Int32}
def B1 (y : Sy) (k o m : Nat) (zs : Nat → Nat) (v : Nat) : Prop := ∃ i, i < m ∧ zs i = thn (zs k) (sB y (v / 2) (4 + v % 2) (zs o))
theorem m_L126 (hw : wh < 3) (hy : y = syM wh n0 w0 n1 w1) (hok : SyOk y) (M : MdOk n0 m0 t0 w0 n1 m1 t1 w1 st mk tk pu go cl) {b0 k o : Nat} {C : Nat → (Nat → Nat) → Prop} {mo sp : Int32} {n : Nat} {xs : Nat → Nat} {wo wl : Nat → Int32} (S : SW y wh b0 C mo sp n xs wo wl) (hk : k < n) (ho : o < n)
    {E : Int32 → Int32 → Int32 → Int32 → (Nat → Int32) → (Nat → Int32) → Prop}
    (h : ∀ mo' sp' n' xs' wo' wl', SW y wh b0 (fun m zs => C m zs ∧ ∀ v, v < 4 → B1 y k o m zs v) mo' sp' n' xs' wo' wl' → n ≤ n' → Ext n xs xs' → E mo' (nI 4) sp' (nI n') wo' wl') :
    wX12_findWholes_L126 (nI wh) mk pu cl (nI k) (nI o) E mo (nI 0) sp (nI n) wo wl := by
  unfold wX12_findWholes_L126
  intro P hP
  refine q_cnt0 (Q := fun v => ∀ mo' sp' n' xs' wo' wl', SW y wh b0 (fun m zs => C m zs ∧ ∀ u, u < v → B1 y k o m zs u) mo' sp' n' xs' wo' wl' → n ≤ n' → Ext n xs xs' → P mo' (nI v) sp' (nI n') wo' wl') 4 ?_ ?_ mo sp n xs wo wl (SW_mono S (fun _ c => ⟨c, fun u hu => by omega⟩)) (Nat.le_refl _) (Ext_refl _ _)
  · intro mo' sp' n' xs' wo' wl' S' a1 a2
    refine hP _ _ _ _ _ _ ?_
    simp (disch := omega) only [q_lit, nI_add, pk_mul, q_a1, q_a3, q_a7, q_a31, q_a63, q_a255, q_a511, q_or, q_shr, q_shl, q_le, q_lt, q_eq, q_in, q_cl, q_neg, q_neg', q_nlt0, q_nle, q_nlt, q_nle', q_nlt', forall_eq, true_implies, false_implies, not_true_eq_false, not_false_eq_true, and_true, true_and, Nat.reduceMod, Nat.reducePow, Nat.reduceAdd, Nat.reduceMul, Nat.reduceDiv, Nat.reduceSub, Nat.reduceEqDiff, Nat.reduceLeDiff, Nat.reduceLT, Nat.le_refl]
    exact h mo' sp' n' xs' wo' wl' S' a1 a2
  · intro v hv ih mo' sp' n' xs' wo' wl' S' a1 a2
    refine hP _ _ _ _ _ _ ?_
    have W' := S'.1
    obtain ⟨_, hn', _, a4, _⟩ := id W'
    obtain ⟨ok1, ok2⟩ := a4 k (by omega)
    obtain ⟨oo1, oo2⟩ := a4 o (by omega)
    have h2v : v / 2 < 2 := by omega
    rw [q_cl (show k < 2147483648 by omega), q_cl (show o < 2147483648 by omega), ok1, oo1]
    simp (disch := omega) only [q_lit, nI_add, pk_mul, q_a1, q_a3, q_a7, q_a31, q_a63, q_a255, q_a511, q_or, q_shr, q_shl, q_le, q_lt, q_eq, q_in, q_cl, q_neg, q_neg', q_nlt0, q_nle, q_nlt, q_nle', q_nlt', forall_eq, true_implies, false_implies, not_true_eq_false, not_false_eq_true, and_true, true_and, Nat.reduceMod, Nat.reducePow, Nat.reduceAdd, Nat.reduceMul, Nat.reduceDiv, Nat.reduceSub, Nat.reduceEqDiff, Nat.reduceLeDiff, Nat.reduceLT, q_divN, q_remN']
    refine ⟨fun g => absurd g (by omega), fun _ => ⟨by omega, ?_⟩⟩
    have Ro := WS_R2 hok oo2
    have Rk := WS_R2 hok ok2
    have Rb : R2 y (sB y (v / 2) (4 + v % 2) (xs' o)) := R2_B hok _ _ _
    subst hy
    refine m_block hw M h2v (by omega) (by omega) Ro ⟨by omega, m_follow hw Rk Rb ⟨by omega, by omega, ?_⟩⟩
    refine m_sweep1 hw rfl hok S' (K := fun mo' u v' w z => P mo' (nI (v + 1)) u v' w z) (WS_stp ok2 (.inr (.inr ⟨v / 2, 4 + v % 2, xs' o, h2v, by omega, by omega, oo2, rfl⟩))) (fun mo2 sp2 n2 xs2 wo2 wl2 S2 b1 b2 => ?_)
    refine ih mo2 sp2 n2 xs2 wo2 wl2 (SW_mono S2 (fun _ ⟨⟨c1, c2⟩, c3, c4, c5⟩ => ⟨c1, fun u hu => ?_⟩)) (by omega) (Ext_trans a2 b2 a1)
    by_cases e : u = v
    · subst e
      obtain ⟨i, hi, ei⟩ := c5
      exact ⟨i, by omega, by rw [c4]; exact ei⟩
    · exact c2 u (by omega)
theorem m_L107 (hw : wh < 3) (hy : y = syM wh n0 w0 n1 w1) (hok : SyOk y) (M : MdOk n0 m0 t0 w0 n1 m1 t1 w1 st mk tk pu go cl) {b0 k : Nat} {C : Nat → (Nat → Nat) → Prop} {mo sp : Int32} {n : Nat} {xs : Nat → Nat} {wo wl : Nat → Int32} (S : SW y wh b0 C mo sp n xs wo wl) (hk : k < n)
    {E : Int32 → Int32 → Int32 → Int32 → (Nat → Int32) → (Nat → Int32) → Prop}
    (h : ∀ mo' i sp' n' xs' wo' wl', SW y wh b0 (fun m zs => C m zs ∧ ∀ o, o < m → ∀ v, v < 4 → B1 y k o m zs v) mo' sp' n' xs' wo' wl' → n ≤ n' → Ext n xs xs' → E mo' i sp' (nI n') wo' wl') :
    wX12_findWholes_L107 (nI wh) mk pu cl (nI k) E mo (nI 0) sp (nI n) wo wl := by
  unfold wX12_findWholes_L107
  intro P hP
  refine q_cnt0 (Q := fun o => ∀ mo' sp' n' xs' wo' wl', SW y wh b0 (fun m zs => C m zs ∧ ∀ o', o' < o → ∀ v, v < 4 → B1 y k o' m zs v) mo' sp' n' xs' wo' wl' → n ≤ n' → Ext n xs xs' → P mo' (nI o) sp' (nI n') wo' wl') 60 ?_ ?_ mo sp n xs wo wl (SW_mono S (fun _ c => ⟨c, fun u hu => by omega⟩)) (Nat.le_refl _) (Ext_refl _ _)
  · intro mo' sp' n' xs' wo' wl' S' a1 a2
    have hn' := S'.1.2.1
    refine hP _ _ _ _ _ _ ?_
    simp (disch := omega) only [q_le]
    exact ⟨fun _ => h _ _ _ _ _ _ _ (SW_mono S' (fun _ ⟨c1, c2⟩ => ⟨c1, fun o ho => c2 o (by omega)⟩)) a1 a2, fun g => absurd hn' g⟩
  · intro o ho ih mo' sp' n' xs' wo' wl' S' a1 a2
    have hn' := S'.1.2.1
    refine hP _ _ _ _ _ _ ?_
    simp (disch := omega) only [q_le]
    refine ⟨fun g => h _ _ _ _ _ _ _ (SW_mono S' (fun _ ⟨c1, c2⟩ => ⟨c1, fun o ho => c2 o (by omega)⟩)) a1 a2, fun g => ⟨fun g0 => ?_, fun g0 => ?_⟩⟩
    · refine m_L126 hw hy hok M S' (by omega) (by omega) (fun mo2 sp2 n2 xs2 wo2 wl2 S2 b1 b2 => ?_)
      simp only [q_lit, nI_add, pk_mul, q_a1, q_a3, q_a7, q_a31, q_a63, q_a255, q_a511, q_or, q_shr, q_shl, q_le, q_lt, q_eq, q_in, q_cl, q_neg, q_neg', q_nlt0, q_nle, q_nlt, q_nle', q_nlt', forall_eq, true_implies, false_implies, not_true_eq_false, not_false_eq_true, and_true, true_and, Nat.reduceMod, Nat.reducePow, Nat.reduceAdd, Nat.reduceMul, Nat.reduceDiv, Nat.reduceSub, Nat.reduceEqDiff, Nat.reduceLeDiff, Nat.reduceLT]
      refine ih mo2 sp2 n2 xs2 wo2 wl2 (SW_mono S2 (fun _ ⟨⟨c1, c2⟩, c3⟩ => ⟨c1, fun o' ho' => ?_⟩)) (by omega) (Ext_trans a2 b2 a1)
      by_cases e : o' = o
      · subst e; exact c3
      · exact c2 o' (by omega)
    · have e1 := sp_01 S'.2.1 g0
      refine h _ _ _ _ _ _ _ (SW_mono S' (fun e => ?_)) a1 a2
      rw [e1] at e; exact absurd e (by decide)
theorem m_L51 (hw : wh < 3) (hy : y = syM wh n0 w0 n1 w1) (hok : SyOk y) (M : MdOk n0 m0 t0 w0 n1 m1 t1 w1 st mk tk pu go cl) {b0 k : Nat} {C : Nat → (Nat → Nat) → Prop} {mo sp : Int32} {n : Nat} {xs : Nat → Nat} {wo wl : Nat → Int32} (S : SW y wh b0 C mo sp n xs wo wl) (hk : k < n)
    {E : Int32 → Int32 → Int32 → Int32 → (Nat → Int32) → (Nat → Int32) → Prop}
    (h : ∀ mo' sp' n' xs' wo' wl', SW y wh b0 (fun m zs => C m zs ∧ ∀ l, 2 ≤ l → l < 4 → ∃ i, i < m ∧ zs i = thn (zs k) (sP y l)) mo' sp' n' xs' wo' wl' → n ≤ n' → Ext n xs xs' → E mo' (nI 4) sp' (nI n') wo' wl') :
    wX12_findWholes_L51 (nI wh) go (nI k) E mo (nI 2) sp (nI n) wo wl := by
  unfold wX12_findWholes_L51
  intro P hP
  refine q_cnt (Q := fun l => 2 ≤ l → ∀ mo' sp' n' xs' wo' wl', SW y wh b0 (fun m zs => C m zs ∧ ∀ l', 2 ≤ l' → l' < l → ∃ i, i < m ∧ zs i = thn (zs k) (sP y l')) mo' sp' n' xs' wo' wl' → n ≤ n' → Ext n xs xs' → P mo' (nI l) sp' (nI n') wo' wl') (N := 4) ?_ ?_ 2 (by omega) (Nat.le_refl _) mo sp n xs wo wl (SW_mono S (fun _ c => ⟨c, fun u h1 h2 => by omega⟩)) (Nat.le_refl _) (Ext_refl _ _)
  · intro _ mo' sp' n' xs' wo' wl' S' a1 a2
    refine hP _ _ _ _ _ _ ?_
    simp (disch := omega) only [q_lit, nI_add, pk_mul, q_a1, q_a3, q_a7, q_a31, q_a63, q_a255, q_a511, q_or, q_shr, q_shl, q_le, q_lt, q_eq, q_in, q_cl, q_neg, q_neg', q_nlt0, q_nle, q_nlt, q_nle', q_nlt', forall_eq, true_implies, false_implies, not_true_eq_false, not_false_eq_true, and_true, true_and, Nat.reduceMod, Nat.reducePow, Nat.reduceAdd, Nat.reduceMul, Nat.reduceDiv, Nat.reduceSub, Nat.reduceEqDiff, Nat.reduceLeDiff, Nat.reduceLT, Nat.le_refl]
    exact h mo' sp' n' xs' wo' wl' S' a1 a2
  · intro l hl ih h2 mo' sp' n' xs' wo' wl' S' a1 a2
    refine hP _ _ _ _ _ _ ?_
    obtain ⟨_, hn', _, a4, _⟩ := id S'.1
    obtain ⟨ok1, ok2⟩ := a4 k (by omega)
    rw [q_cl (show k < 2147483648 by omega), ok1]
    simp (disch := omega) only [q_lit, nI_add, pk_mul, q_a1, q_a3, q_a7, q_a31, q_a63, q_a255, q_a511, q_or, q_shr, q_shl, q_le, q_lt, q_eq, q_in, q_cl, q_neg, q_neg', q_nlt0, q_nle, q_nlt, q_nle', q_nlt', forall_eq, true_implies, false_implies, not_true_eq_false, not_false_eq_true, and_true, true_and, Nat.reduceMod, Nat.reducePow, Nat.reduceAdd, Nat.reduceMul, Nat.reduceDiv, Nat.reduceSub, Nat.reduceEqDiff, Nat.reduceLeDiff, Nat.reduceLT]
    have Rk := WS_R2 hok ok2
    have Rb : R2 y (sP y l) := R2_P hok _
    have sl : stpS y (WS y) (sP y l) := by
      have : l = 2 ∨ l = 3 := by omega
      rcases this with rfl | rfl
      · exact .inl rfl
      · exact .inr (.inl rfl)
    subst hy
    refine ⟨fun g => absurd g (by omega), fun _ => ⟨by omega, m_plain hw M h2 hl (m_follow hw Rk Rb ⟨by omega, ?_⟩)⟩⟩
    refine m_sweep1 hw rfl hok S' (K := fun mo' u v' w z => P mo' (nI (l + 1)) u v' w z) (WS_stp ok2 sl) (fun mo2 sp2 n2 xs2 wo2 wl2 S2 b1 b2 => ?_)
    refine ih (by omega) mo2 sp2 n2 xs2 wo2 wl2 (SW_mono S2 (fun _ ⟨⟨c1, c2⟩, c3, c4, c5⟩ => ⟨c1, fun u h1 hu => ?_⟩)) (by omega) (Ext_trans a2 b2 a1)
    by_cases e : u = l
    · subst e
      obtain ⟨i, hi, ei⟩ := c5
      exact ⟨i, by omega, by rw [c4]; exact ei⟩
    · exact c2 u h1 (by omega)
/-- all that one sweep looks at behind pair k -/
def CL (y : Sy) (k m : Nat) (zs : Nat → Nat) : Prop := (∀ l, 2 ≤ l → l < 4 → ∃ i, i < m ∧ zs i = thn (zs k) (sP y l)) ∧ ∀ o, o < m → ∀ v, v < 4 → B1 y k o m zs v
theorem m_L33 (hw : wh < 3) (hy : y = syM wh n0 w0 n1 w1) (hok : SyOk y) (M : MdOk n0 m0 t0 w0 n1 m1 t1 w1 st mk tk pu go cl) {b0 : Nat} {mo sp : Int32} {n : Nat} {xs : Nat → Nat} {wo wl : Nat → Int32} (S : SW y wh b0 (fun _ _ => True) mo sp n xs wo wl)
    {E : Int32 → Int32 → Int32 → Int32 → (Nat → Int32) → (Nat → Int32) → Prop}
    (h : ∀ mo' i sp' n' xs' wo' wl', SW y wh b0 (fun m zs => ∀ k, k < m → CL y k m zs) mo' sp' n' xs' wo' wl' → E mo' i sp' (nI n') wo' wl') :
    wX12_findWholes_L33 (nI wh) mk pu go cl E mo (nI 0) sp (nI n) wo wl := by
  unfold wX12_findWholes_L33
  intro P hP
  refine q_cnt0 (Q := fun k => ∀ mo' sp' n' xs' wo' wl', SW y wh b0 (fun m zs => ∀ k', k' < k → CL y k' m zs) mo' sp' n' xs' wo' wl' → P mo' (nI k) sp' (nI n') wo' wl') 60 ?_ ?_ mo sp n xs wo wl (SW_mono S (fun _ _ => fun u hu => by omega))
  · intro mo' sp' n' xs' wo' wl' S'
    have hn' := S'.1.2.1
    refine hP _ _ _ _ _ _ ?_
    simp (disch := omega) only [q_le]
    exact ⟨fun _ => h _ _ _ _ _ _ _ (SW_mono S' (fun _ c2 => fun o ho => c2 o (by omega))), fun g => absurd hn' g⟩
  · intro k hk ih mo' sp' n' xs' wo' wl' S'
    have hn' := S'.1.2.1
    refine hP _ _ _ _ _ _ ?_
    simp (disch := omega) only [q_le]
    refine ⟨fun g => h _ _ _ _ _ _ _ (SW_mono S' (fun _ c2 => fun o ho => c2 o (by omega))), fun g => ⟨fun g0 => ?_, fun g0 => ?_⟩⟩
    · refine m_L51 hw hy hok M S' (by omega) (fun mo2 sp2 n2 xs2 wo2 wl2 S2 b1 b2 => ?_)
      intro E2 hE2
      refine m_L107 hw hy hok M S2 (show k < n2 by omega) (fun mo3 i sp3 n3 xs3 wo3 wl3 S3 d1 d2 => hE2 _ _ _ _ _ _ ?_)
      simp only [q_lit, nI_add, pk_mul, q_a1, q_a3, q_a7, q_a31, q_a63, q_a255, q_a511, q_or, q_shr, q_shl, q_le, q_lt, q_eq, q_in, q_cl, q_neg, q_neg', q_nlt0, q_nle, q_nlt, q_nle', q_nlt', forall_eq, true_implies, false_implies, not_true_eq_false, not_false_eq_true, and_true, true_and, Nat.reduceMod, Nat.reducePow, Nat.reduceAdd, Nat.reduceMul, Nat.reduceDiv, Nat.reduceSub, Nat.reduceEqDiff, Nat.reduceLeDiff, Nat.reduceLT]
      refine ih mo3 sp3 n3 xs3 wo3 wl3 (SW_mono S3 (fun _ ⟨⟨c1, c2⟩, c3⟩ => fun k' hk' => ?_))
      by_cases e : k' = k
      · subst e; exact ⟨c2, c3⟩
      · exact c1 k' (by omega)
    · have e1 := sp_01 S'.2.1 g0
      refine h _ _ _ _ _ _ _ (SW_mono S' (fun e => ?_))
      rw [e1] at e; exact absurd e (by decide)
theorem CL_Enum {n : Nat} {xs : Nat → Nat} {wo : Nat → Int32} (W : WM y wh n xs wo) (h : ∀ k, k < n → CL y k n xs) : Enum (WS y) xs n := by
  obtain ⟨a1, a2, a3, a4, a5⟩ := W
  refine ⟨fun i hi => (a4 i hi).2, a5, fun x hx => hx (fun x => ∃ i, i < n ∧ xs i = x) ⟨0, by omega, a3⟩ ?_⟩
  rintro u s ⟨k, hk, ek⟩ hs
  obtain ⟨c1, c2⟩ := h k hk
  rcases hs with e | e | ⟨a, e, o, h1, h2, h3, ⟨o', ho', eo⟩, h5⟩
  · obtain ⟨i, hi, ei⟩ := c1 2 (by omega) (by omega)
    exact ⟨i, hi, by rw [ei, ek, e]⟩
  · obtain ⟨i, hi, ei⟩ := c1 3 (by omega) (by omega)
    exact ⟨i, hi, by rw [ei, ek, e]⟩
  · obtain ⟨i, hi, ei⟩ := c2 o' ho' (2 * a + (e - 4)) (by omega)
    refine ⟨i, hi, ?_⟩
    rw [ei, ek, eo, h5, show (2 * a + (e - 4)) / 2 = a from by omega, show 4 + (2 * a + (e - 4)) % 2 = e from by omega]
theorem m_findWholes (hw : wh < 3) (hy : y = syM wh n0 w0 n1 w1) (M : MdOk n0 m0 t0 w0 n1 m1 t1 w1 st mk tk pu go cl) {a : Int32} {wo wl : Nat → Int32} {K : Int32 → Int32 → (Nat → Int32) → (Nat → Int32) → Prop}
    (h : ∀ sp n xs wo' wl', WM y wh n xs wo' → SpB y sp → (sp = nI 0 → Enum (WS y) xs n) → K sp (nI n) wo' wl') :
    wX12_findWholes (nI wh) (nI 0) a st mk pu go cl wo wl K := by
  have hok : SyOk y := by rw [hy]; exact syM_ok hw M
  unfold wX12_findWholes
  have e1 := hy ▸ m_itself hw M (K := fun r1 => wX12_meetWhole r1 (0 : Int32) (nI 0) (0 : Int32) wo wl (fun r2 u3 u4 u5 u6 => (∀ E18 : Int32 → Int32 → Int32 → (Nat → Int32) → (Nat → Int32) → Prop, (∀ (i18_2 : Int32) (F_isSpent_18 : Int32) (F_wholes_18 : Int32) (A_whole_18 : Nat → Int32) (A_wholeLong_18 : Nat → Int32), K F_isSpent_18 F_wholes_18 A_whole_18 A_wholeLong_18 → E18 i18_2 F_isSpent_18 F_wholes_18 A_whole_18 A_wholeLong_18) → wX12_findWholes_L18 (nI wh) mk pu go cl E18 (1 : Int32) u3 u4 u5 u6)))
  refine e1 ?_
  have RE : R2 y (sE y) := R2_E
  refine q_meetWhole (n := 0) (xs := fun _ => sE y) (by omega) (by have := ph_lt hw hy RE; omega) (fun i hi => by omega) (fun i hi => by omega) (fun i hi => by omega) (fun _ g => by omega) (fun _ _ => ?_)
  intro E hE
  unfold wX12_findWholes_L18
  intro P hP
  have L : ∀ (b : Nat) mo sp n xs wo' wl', mu 60 n wl' ≤ b → WM y wh n xs wo' → SpB y sp → ((mo = nI 0 ∧ (sp = nI 0 → Enum (WS y) xs n)) ∨ mo = nI 1) → P mo sp (nI n) wo' wl' := by
    intro b
    induction b using Nat.strongRecOn with
    | ind b ih =>
      intro mo sp n xs wo' wl' hb W hsp hm
      refine hP _ _ _ _ _ ?_
      refine ⟨fun g => hE _ _ _ _ _ (h sp n xs wo' wl' W hsp ?_), fun g => ⟨fun g0 => ?_, fun g0 => hE _ _ _ _ _ (h sp n xs wo' wl' W hsp ?_)⟩⟩
      · rcases hm with ⟨_, h2⟩ | h1
        · exact h2
        · rw [h1] at g; exact absurd g (by decide)
      · intro E2 hE2
        refine m_L33 hw hy hok M (b0 := mu 60 n wl') (mo := nI 0) ⟨W, hsp, .inl ⟨rfl, rfl, fun _ => trivial⟩⟩ (fun mo' i sp' n' xs' wo2 wl2 S' => hE2 _ _ _ _ _ _ ?_)
        obtain ⟨W', hsp', hm'⟩ := S'
        rcases hm' with ⟨h1, h2, h3⟩ | ⟨h1, h2⟩
        · subst h1
          refine hP _ _ _ _ _ ⟨fun _ => hE _ _ _ _ _ (h sp' n' xs' wo2 wl2 W' hsp' (fun e => CL_Enum W' (h3 e))), fun g => absurd rfl g⟩
        · exact ih (mu 60 n' wl2) (by omega) mo' sp' n' xs' wo2 wl2 (Nat.le_refl _) W' hsp' (.inr h1)
      · intro e; exact absurd e g0
  exact L _ _ _ _ (fun _ => sE y) _ _ (Nat.le_refl _) ⟨by omega, by omega, rfl, fun i hi => ⟨by rw [q_ap, if_pos (by omega)], WS_E y⟩, fun i j hi hj _ => by omega⟩ (.inl rfl) (.inr rfl)
end
