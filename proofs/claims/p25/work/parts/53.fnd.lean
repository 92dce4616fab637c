abbrev Nd := (Nat × Nat) × Bool
def NSt (y : Sy) (t : Nd) : Prop := NS y t.1.1 t.1.2 t.2
def bI (d : Bool) : Nat := if d then 1 else 0
theorem bI_lt (d : Bool) : bI d < 2 := by unfold bI; split <;> omega
theorem bI_inj {d e : Bool} (h : bI d = bI e) : d = e := by
  cases d <;> cases e <;> first | rfl | exact absurd h (by decide)
/-- the reference's nodes as far as they are found -/
def WN (y : Sy) (wh n : Nat) (nd : Nat → Nd) (co si de : Nat → Int32) : Prop :=
  n ≤ 120 ∧ (∀ i, i < n → co i = nI (ps wh (nd i).1.1) ∧ si i = nI (ph wh (nd i).1.2) ∧ de i = nI (bI (nd i).2) ∧ NSt y (nd i)) ∧ ∀ i j, i < n → j < n → nd i = nd j → i = j
/-- how many places these are -/
def WP (n pl : Nat) (nd : Nat → Nd) : Prop := ∃ f, Enum (fun p : Nat × Nat => ∃ i, i < n ∧ (nd i).1 = p) f pl
def NI (y : Sy) (wh : Nat) (sp : Int32) (n : Nat) (pl : Int32) (nd : Nat → Nd) (co si de : Nat → Int32) : Prop :=
  WN y wh n nd co si de ∧ ((sp = nI 0 ∧ ∃ p, pl = nI p ∧ p ≤ 60 ∧ WP n p nd) ∨ (sp = nI 1 ∧ Big (PS y)))
theorem WP_n {n pl : Nat} {nd : Nat → Nd} (h : WP n pl nd) (hinj : ∀ i j, i < n → j < n → nd i = nd j → i = j) : n ≤ 2 * pl := by
  obtain ⟨f, hf⟩ := h
  refine inj_le (S := fun t : Nd => ∃ i, i < n ∧ nd i = t) (f := nd) (g := fun m => (f (m / 2), decide (m % 2 = 1))) (fun i hi => ⟨i, hi, rfl⟩) hinj (fun t ⟨i, hi, e⟩ => ?_)
  obtain ⟨j, hj, ej⟩ := hf.2.2 t.1 ⟨i, hi, by rw [e]⟩
  refine ⟨2 * j + bI t.2, by have := bI_lt t.2; omega, ?_⟩
  have := bI_lt t.2
  show (f ((2 * j + bI t.2) / 2), decide ((2 * j + bI t.2) % 2 = 1)) = t
  rw [show (2 * j + bI t.2) / 2 = j from by omega, ej, show (2 * j + bI t.2) % 2 = bI t.2 from by omega]
  obtain ⟨t1, t2⟩ := t
  cases t2 <;> rfl
section
variable {y : Sy} {wh n0 m0 t0 n1 m1 t1 : Nat} {w0 w1 : Nat → Nat} {st mk tk pu go cl : Nat → Int32}
theorem m_nodeOf {n : Nat} {nd : Nat → Nd} {co si de : Nat → Int32} (W : WN y wh n nd co si de) (hw : wh < 3) (hy : y = syM wh n0 w0 n1 w1) (hok : SyOk y) {t : Nd} (ht1 : ps wh t.1.1 < 64) (ht2 : ph wh t.1.2 < 262144) {K : Int32 → Prop} (h1 : ∀ i, i < n → nd i = t → K (nI i)) (h0 : (∀ i, i < n → nd i ≠ t) → K (-nI 1)) : wX12_nodeOf (nI (ps wh t.1.1)) (nI (ph wh t.1.2)) (nI (bI t.2)) (nI n) co si de K := by
  obtain ⟨hn, W1, W2⟩ := W
  unfold wX12_nodeOf wX12_nodeOf_L3
  intro P hP
  refine q_cnt0 (Q := fun k => (∀ i, i < k → nd i ≠ t) → P (nI k)) n ?_ ?_ (fun i hi => by omega)
  · intro hno
    refine hP _ ?_
    simp (disch := omega) only [q_lit, nI_add, pk_mul, q_a1, q_a3, q_a7, q_a31, q_a63, q_a255, q_a511, q_or, q_shr, q_shl, q_le, q_lt, q_eq, q_in, q_cl, q_neg, q_neg', q_nlt0, q_nle, q_nlt, q_nle', q_nlt', forall_eq, true_implies, false_implies, not_true_eq_false, not_false_eq_true, and_true, true_and, Nat.reduceMod, Nat.reducePow, Nat.reduceAdd, Nat.reduceMul, Nat.reduceDiv, Nat.reduceSub, Nat.reduceEqDiff, Nat.reduceLeDiff, Nat.reduceLT, Nat.le_refl]
    exact h0 hno
  · intro k hk ih hno
    refine hP _ ?_
    obtain ⟨e1, e2, e3, e4⟩ := W1 k hk
    have l1 := ps_lt hw hy (NS_S2 hok e4)
    have l2 := ph_lt hw hy (WS_R2 hok (NS_WS hok e4))
    have l3 := bI_lt (nd k).2
    have l4 := bI_lt t.2
    rw [q_cl (show k < 2147483648 by omega), e1, e2, e3]
    simp (disch := omega) only [q_lit, nI_add, pk_mul, q_a1, q_a3, q_a7, q_a31, q_a63, q_a255, q_a511, q_or, q_shr, q_shl, q_le, q_lt, q_eq, q_in, q_cl, q_neg, q_neg', q_nlt0, q_nle, q_nlt, q_nle', q_nlt', forall_eq, true_implies, false_implies, not_true_eq_false, not_false_eq_true, and_true, true_and, Nat.reduceMod, Nat.reducePow, Nat.reduceAdd, Nat.reduceMul, Nat.reduceDiv, Nat.reduceSub, Nat.reduceEqDiff, Nat.reduceLeDiff, Nat.reduceLT]
    have nx : nd k ≠ t → P (nI (k + 1)) := fun g => ih fun i hi => by
      by_cases e : i = k
      · rw [e]; exact g
      · exact hno i (by omega)
    refine ⟨fun g => absurd g (by omega), fun _ => ⟨by omega, fun g1 => ⟨by omega, fun g2 => ⟨by omega, fun g3 => ?_, fun g3 => ?_⟩, fun g2 => ?_⟩, fun g1 => ?_⟩⟩
    · refine h1 k hk ?_
      have a := ps_inj g1
      have b := ph_inj g2
      have c := bI_inj g3
      exact Prod.ext (Prod.ext a b) c
    · exact nx fun e => g3 (by rw [e])
    · exact nx fun e => g2 (by rw [e])
    · exact nx fun e => g1 (by rw [e])
theorem nar_b (d : Bool) : vp_nar .boolean (nI (bI d)) = nI (bI d) := by cases d <;> rfl
def ntB (t : Nd) : Nd := (t.1, !t.2)
/-- meeting a node -/
theorem m_meet (hw : wh < 3) (hy : y = syM wh n0 w0 n1 w1) (hok : SyOk y) {sp pl : Int32} {n : Nat} {nd : Nat → Nd} {co si de lo : Nat → Int32} (I : NI y wh sp n pl nd co si de) {t : Nd} (ht : NSt y t) {len : Int32} {K : Int32 → Int32 → Int32 → Int32 → (Nat → Int32) → (Nat → Int32) → (Nat → Int32) → (Nat → Int32) → Prop}
    (h : ∀ r sp' n' pl' nd' co' si' de' lo', NI y wh sp' n' pl' nd' co' si' de' → n ≤ n' → (∀ i, i < n → nd' i = nd i) →
      ((r = nI 0 ∧ n' = n ∧ nd' = nd ∧ mu 128 n' lo' = mu 128 n lo ∧ (sp' = nI 0 → sp = nI 0 ∧ ∃ i, i < n ∧ nd i = t)) ∨ (r = nI 1 ∧ mu 128 n' lo' < mu 128 n lo ∧ n' ≤ n + 1 ∧ (sp' = nI 0 → sp = nI 0) ∧ ∃ i, i < n' ∧ nd' i = t)) → K r sp' (nI n') pl' co' si' de' lo') :
    wX12_meetNode (nI (ps wh t.1.1)) (nI (ph wh t.1.2)) (nI (bI t.2)) len sp (nI n) pl co si de lo K := by
  obtain ⟨W, hm⟩ := id I
  obtain ⟨hn, W1, W2⟩ := id W
  have l1 := ps_lt hw hy (NS_S2 hok ht)
  have l2 := ph_lt hw hy (WS_R2 hok (NS_WS hok ht))
  have l4 := bI_lt t.2
  have uu : ∀ i, upd lo i (lo i) = lo := fun i => by
    funext j; unfold upd; split
    · rename_i e; rw [e]
    · rfl
  unfold wX12_meetNode
  refine m_nodeOf W hw hy hok l1 l2 (fun i hi e => ?_) (fun hno => ?_)
  · simp (disch := omega) only [q_lit, nI_add, pk_mul, q_a1, q_a3, q_a7, q_a31, q_a63, q_a255, q_a511, q_or, q_shr, q_shl, q_le, q_lt, q_eq, q_in, q_cl, q_neg, q_neg', q_nlt0, q_nle, q_nlt, q_nle', q_nlt', forall_eq, true_implies, false_implies, not_true_eq_false, not_false_eq_true, and_true, true_and, Nat.reduceMod, Nat.reducePow, Nat.reduceAdd, Nat.reduceMul, Nat.reduceDiv, Nat.reduceSub, Nat.reduceEqDiff, Nat.reduceLeDiff, Nat.reduceLT, uu]
    refine ⟨by omega, fun g => ⟨by omega, by omega, h _ _ n _ nd _ _ _ _ I (Nat.le_refl _) (fun _ _ => rfl) (.inl ⟨rfl, rfl, rfl, rfl, fun e0 => ⟨e0, i, hi, e⟩⟩)⟩, fun g => ⟨by omega, h _ _ n _ nd _ _ _ _ I (Nat.le_refl _) (fun _ _ => rfl) (.inr ⟨rfl, mu_low hi g, by omega, id, i, hi, e⟩)⟩⟩
  · simp (disch := omega) only [q_lit, nI_add, pk_mul, q_a1, q_a3, q_a7, q_a31, q_a63, q_a255, q_a511, q_or, q_shr, q_shl, q_le, q_lt, q_eq, q_in, q_cl, q_neg, q_neg', q_nlt0, q_nle, q_nlt, q_nle', q_nlt', forall_eq, true_implies, false_implies, not_true_eq_false, not_false_eq_true, and_true, true_and, Nat.reduceMod, Nat.reducePow, Nat.reduceAdd, Nat.reduceMul, Nat.reduceDiv, Nat.reduceSub, Nat.reduceEqDiff, Nat.reduceLeDiff, Nat.reduceLT]
    intro J hJ
    have JJ : J (nI (bI (!t.2))) → ((bI t.2 = 0 → J (nI 1)) ∧ (¬ bI t.2 = 0 → J (nI 0))) := fun j => by
      cases g : t.2
      · rw [g] at j; exact ⟨fun _ => j, fun g' => absurd rfl g'⟩
      · rw [g] at j; exact ⟨fun g' => absurd g' (by decide), fun _ => j⟩
    refine JJ (hJ _ ?_)
    have body : ∀ (s90 : Nat), s90 ≤ 1 → (∀ p, WP n p nd → WP (n + 1) (p + s90) (fun i => if i = n then t else nd i)) → ∀ J116 : Int32 → Prop, (∀ s116_1 : Int32, (ms_z s116_1 ∧ ((s116_1 = nI 0 → (n < 128 ∧ n < 128 ∧ n < 128 ∧ n < 128 ∧ K (nI 1) s116_1 (nI (n + 1)) (pl + nI s90) (upd co n (nI (ps wh t.1.1))) (upd si n (nI (ph wh t.1.2))) (upd de n (vp_nar .boolean (nI (bI t.2)))) (upd lo n len))) ∧ (¬ s116_1 = nI 0 → K (nI 0) s116_1 (nI n) (pl + nI s90) co si de lo))) → J116 s116_1) → ((sp = nI 0 → ((pl + nI s90 ≤ nI 60 → J116 (nI 0)) ∧ (¬ pl + nI s90 ≤ nI 60 → J116 (nI 1)))) ∧ (¬ sp = nI 0 → J116 (nI 1))) := by
      intro s90 hs90 hWP J116 hJ116
      have spent : Big (PS y) → J116 (nI 1) := fun hB => hJ116 _ ⟨qs_z1, fun g => absurd g (by decide), fun _ => h _ _ n _ nd _ _ _ _ ⟨W, .inr ⟨rfl, hB⟩⟩ (Nat.le_refl _) (fun _ _ => rfl) (.inl ⟨rfl, rfl, rfl, rfl, fun e => absurd e (by decide)⟩)⟩
      rcases hm with ⟨e0, p, ep, hp60, hWPp⟩ | ⟨e1, hB⟩
      · subst e0; subst ep
        rw [nI_add] at hJ116 ⊢
        have hn2 := WP_n hWPp W2
        have hWP' := hWP p hWPp
        have inj' : ∀ i j, i < n + 1 → j < n + 1 → (if i = n then t else nd i) = (if j = n then t else nd j) → i = j := fun i j hi hj e => by
          split at e <;> split at e
          · omega
          · exact absurd e.symm (hno j (by omega))
          · exact absurd e (hno i (by omega))
          · exact W2 i j (by omega) (by omega) e
        have hn3 := WP_n hWP' inj'
        rw [q_le (by omega) (by omega)]
        refine ⟨fun _ => ⟨fun g => hJ116 _ ⟨qs_z0, fun _ => ?_, fun g' => absurd rfl g'⟩, fun g => spent ?_⟩, fun g => absurd rfl g⟩
        · rw [nar_b]
          refine ⟨by omega, by omega, by omega, by omega, ?_⟩
          refine h _ _ (n + 1) _ (fun i => if i = n then t else nd i) _ _ _ _ ⟨⟨by omega, fun i hi => ?_, inj'⟩, .inl ⟨rfl, p + s90, rfl, g, hWP'⟩⟩ (by omega) (fun i hi => if_neg (by omega)) (.inr ⟨rfl, mu_new (by omega), Nat.le_refl _, fun _ => rfl, n, by omega, if_pos rfl⟩)
          rw [q_ap, q_ap, q_ap]
          by_cases e : i = n
          · simp only [if_pos e]; exact ⟨trivial, trivial, trivial, ht⟩
          · simp only [if_neg e]; exact W1 i (by omega)
        · obtain ⟨f, hf⟩ := hWP'
          refine ⟨f, fun i hi => ?_, fun i j hi hj e => hf.2.1 i j (by omega) (by omega) e⟩
          obtain ⟨j, hj, ej⟩ := hf.1 i (by omega)
          rw [← ej]
          show PS y (if j = n then t else nd j).1
          split
          · exact ⟨_, ht⟩
          · exact ⟨_, (W1 j (by omega)).2.2.2⟩
      · subst e1
        exact ⟨fun g => absurd g (by decide), fun _ => spent hB⟩
    refine m_nodeOf W hw hy hok (t := ntB t) l1 l2 (fun i hi e => ?_) (fun hno2 => ?_)
    · intro J90 hJ90
      refine ⟨fun g => ?_, fun _ => hJ90 _ (body 0 (by omega) (fun p ⟨f, hf⟩ => ⟨f, Enum_congr hf fun q => ⟨fun ⟨j, hj, ej⟩ => ⟨j, by omega, ?_⟩, fun ⟨j, hj, ej⟩ => ?_⟩⟩))⟩
      · rw [q_neg (by omega)] at g; exact g.elim
      · show (if j = n then t else nd j).1 = q
        rw [if_neg (by omega)]; exact ej
      · have ej : (if j = n then t else nd j).1 = q := ej
        by_cases g : j = n
        · rw [if_pos g] at ej
          exact ⟨i, hi, by rw [e]; exact ej⟩
        · rw [if_neg g] at ej
          exact ⟨j, by omega, ej⟩
    · intro J90 hJ90
      refine ⟨fun _ => hJ90 _ (body 1 (by omega) (fun p ⟨f, hf⟩ => ?_)), fun g => absurd rfl g⟩
      have hd : ∀ q : Nat × Nat, (∃ i, i < n ∧ (nd i).1 = q) → ¬ q = t.1 := fun q ⟨i, hi, e⟩ e' => by
        by_cases g : (nd i).2 = t.2
        · exact hno i hi (Prod.ext (by rw [e, e']) g)
        · refine hno2 i hi (Prod.ext (by rw [e, e']; rfl) ?_)
          show (nd i).2 = !t.2
          cases h1 : (nd i).2 <;> cases h2 : t.2 <;> first | rfl | exact absurd (by rw [h1, h2]) g
      refine ⟨_, Enum_congr (Enum_add hf (T := fun q => q = t.1) (g := fun _ => t.1) (m := 1) ⟨fun i _ => rfl, fun i j hi hj _ => by omega, fun x hx => ⟨0, by omega, hx.symm⟩⟩ hd) fun q => ⟨fun hq => ?_, fun ⟨j, hj, ej⟩ => ?_⟩⟩
      · rcases hq with ⟨i, hi, e⟩ | e
        · exact ⟨i, by omega, by show (if i = n then t else nd i).1 = q; rw [if_neg (by omega)]; exact e⟩
        · exact ⟨n, by omega, by show (if n = n then t else nd n).1 = q; rw [if_pos rfl]; exact e.symm⟩
      · have ej : (if j = n then t else nd j).1 = q := ej
        by_cases g : j = n
        · rw [if_pos g] at ej; exact .inr ej.symm
        · rw [if_neg g] at ej; exact .inl ⟨j, by omega, ej⟩
end
