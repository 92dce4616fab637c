/-- the class's lengths: they come to an end, whatever they are -/
theorem sh_any {x v c : Int32} {A : Nat → Int32} {N : Nat} (hN : N < 2147483648) {K : Int32 → (Nat → Int32) → Prop} (h : ∀ c' A', K c' A') : wX2_shorten x v c A N K := by
  unfold wX2_shorten
  refine ⟨fun _ => h _ _, fun g => ?_⟩
  obtain ⟨k, hk, ek⟩ := q_nn g
  subst ek
  refine ⟨fun _ => h _ _, fun g2 => ?_⟩
  have kn : k < N := by
    rcases Nat.lt_or_ge k N with g3 | g3
    · exact g3
    · exact absurd ((q_le hN hk).2 g3) g2
  rw [q_in hk]
  exact ⟨kn, fun _ => h _ _, fun _ => ⟨kn, fun _ _ => h _ _⟩⟩
theorem far_any {nc : Nat} (hn : nc ≤ 64) {a b c d : Nat → Int32} {K : (Nat → Int32) → (Nat → Int32) → (Nat → Int32) → (Nat → Int32) → Prop} (h : ∀ a b c d, K a b c d) : wX2_setAllFar a b c d nc K := by
  unfold wX2_setAllFar wX2_setAllFar_L2
  intro P hP
  refine q_cnt0 (Q := fun k => ∀ a b, P (nI k) a b) 60 ?_ ?_ a b
  · intro a b
    refine hP _ _ _ ⟨fun _ => ?_, fun g => absurd ((q_le (by omega) (by omega)).2 (Nat.le_refl 60)) g⟩
    unfold wX2_setAllFar_L32
    intro R hR
    refine q_cnt0 (Q := fun k => ∀ c d, R (nI k) c d) nc ?_ ?_ c d
    · intro c d
      exact hR _ _ _ ⟨fun _ => h _ _ _ _, fun g => absurd ((q_le (by omega) (by omega)).2 (Nat.le_refl nc)) g⟩
    · intro k hk ih c d
      refine hR _ _ _ ⟨fun g => absurd ((q_le (by omega) (by omega)).1 g) (by omega), fun _ => ?_⟩
      rw [q_in (by omega)]
      exact ⟨hk, fun _ _ => ⟨hk, fun _ _ x ex => by rw [ex, nI_1]; exact ih _ _⟩⟩
  · intro k hk ih a b
    refine hP _ _ _ ⟨fun g => absurd ((q_le (a := 60) (by omega) (by omega)).1 g) (by omega), fun _ => ?_⟩
    rw [q_in (by omega)]
    exact ⟨hk, fun _ _ => ⟨hk, fun _ _ x ex => by rw [ex, nI_1]; exact ih _ _⟩⟩
section
variable {y : Sy} {sz st : Nat} {pr wo : Nat → Nat} {pa so wa nx ar pl sl : Nat → Int32}
theorem q_wOS (H : WhOk y sz st pr wo pa so wa nx ar pl sl) {s : Nat} (hs : s < st) {K : Int32 → Prop} (h : K (nI (wo s))) : wX10_wholeOfStep (nI s) (nI st) wa K := by
  obtain ⟨hW, _⟩ := id H
  have z60 := hW.1
  have s60 := WI_st hW
  unfold wX10_wholeOfStep
  rw [q_in (by omega), q_cl (by omega), (hW.2.2.2.2.1 s hs).1]
  exact ⟨fun g3 => absurd g3 (nI_pos (by omega)), fun _ => ⟨fun g3 => absurd ((q_le (by omega) (by omega)).1 g3) (by omega), fun _ => ⟨by omega, h⟩⟩⟩
theorem shW_any (H : WhOk y sz st pr wo pa so wa nx ar pl sl) {c : Int32} {lw ls : Nat → Int32} {K : Int32 → (Nat → Int32) → (Nat → Int32) → Prop} (h : ∀ c a b, K c a b) : wX2_shortenWholes c lw ls (nI sz) (nI st) nx ar K := by
  obtain ⟨hW, _⟩ := id H
  have z60 := hW.1
  have s60 := WI_st hW
  unfold wX2_shortenWholes wX2_shortenWholes_L2 wX10_size
  intro P hP
  refine q_cnt0 (Q := fun i => ∀ c a b, P (nI i) c a b) sz ?_ ?_ c lw ls
  · intro c a b
    exact hP _ _ _ _ ⟨fun _ => h _ _ _, fun g => absurd ((q_le (by omega) (by omega)).2 (Nat.le_refl sz)) g⟩
  · intro i hi ih c a b
    refine hP _ _ _ _ ⟨fun g => absurd ((q_le (by omega) (by omega)).1 g) (by omega), fun _ => ?_⟩
    unfold wX2_shortenWholes_L12
    intro R hR
    refine q_cnt0 (Q := fun v => ∀ c b, R (nI v) c b) 4 ?_ ?_ c b
    · intro c b
      refine hR _ _ _ ⟨fun _ => ?_, fun g => absurd ((q_le (by omega) (by omega)).2 (Nat.le_refl 4)) g⟩
      unfold wX2_shortenWholes_L47 wX10_steps
      intro S hS
      refine q_cnt0 (Q := fun s => ∀ c a, S (nI s) c a) st ?_ ?_ c a
      · intro c a
        exact hS _ _ _ ⟨fun _ x ex => by rw [ex, nI_1]; exact ih _ _ _, fun g => absurd ((q_le (by omega) (by omega)).2 (Nat.le_refl st)) g⟩
      · intro s hs ihs c a
        refine hS _ _ _ ⟨fun g => absurd ((q_le (by omega) (by omega)).1 g) (by omega), fun _ => ?_⟩
        refine q_afterW H hi hs (fun k hk ek => ?_)
        rw [q_in (by omega), q_in (by omega)]
        exact ⟨by omega, by omega, sh_any (by omega) (fun c a x ex => by rw [ex, nI_1]; exact ihs _ _)⟩
    · intro v hv ihv c b
      refine hR _ _ _ ⟨fun g => absurd ((q_le (a := 4) (by omega) (by omega)).1 g) (by omega), fun _ => ?_⟩
      refine q_aroundW H hi hv (fun j hj ej => ?_)
      rw [q_in (by omega)]
      exact ⟨by omega, sh_any (by omega) (fun c a x ex => by rw [ex, nI_1]; exact ihv _ _)⟩
theorem im_any {nc c : Nat} (hn : nc ≤ 64) (hc : c < nc) {i : Nat} (hi : i < 60) {im : Nat → Int32} {K : Int32 → Prop} (h : ∀ r, K r) : wX4_image (nI c) (nI i) im nc K := by
  unfold wX4_image
  intro x ex
  have e2 : x = nI (c * 60 + i) := by rw [ex, show (60 : Int32) = nI 60 from rfl, pk_mul, nI_add]
  rw [e2, q_in (by omega)]
  exact ⟨fun _ => h _, fun _ => ⟨fun _ => h _, fun g => ⟨by omega, h _⟩⟩⟩
theorem al_any {bo n1 m1 t1 n2 m2 t2 : Nat} {w1 w2 : Nat → Nat} (H : HeldOk y bo n1 m1 t1 n2 m2 t2 w1 w2) {l c : Nat} (hl : l < 6) (hc : c < 64) {K : Int32 → Prop} (h : ∀ r, K r) : wX1_alone (nI l) (nI c) (fun j => nI (w1 j)) (fun j => nI (w2 j)) K := by
  have r1 := (Rn_aln (H.1.2.2.2.2.2.1) l).1
  have r2 := (Rn_aln (H.2.1.2.2.2.2.2.1) l).1
  unfold wX1_alone
  exact q_alone hl (q_alone hl (q_jPair r1 (q_imageH hc (by omega) (h _))))
theorem shC_any {bo n1 m1 t1 n2 m2 t2 : Nat} {w1 w2 : Nat → Nat} (HH : HeldOk y bo n1 m1 t1 n2 m2 t2 w1 w2) (H : WhOk y sz st pr wo pa so wa nx ar pl sl) {nc : Nat} (hn : nc ≤ 64) {c : Int32} {im ls lg la : Nat → Int32} {K : Int32 → (Nat → Int32) → (Nat → Int32) → Prop} (h : ∀ c a b, K c a b) : wX2_shortenCodes c (fun j => nI (w1 j)) (fun j => nI (w2 j)) im ls lg la (nI st) wa nc K := by
  obtain ⟨hW, _⟩ := id H
  have z60 := hW.1
  have s60 := WI_st hW
  unfold wX2_shortenCodes wX4_held wX2_shortenCodes_L10
  intro P hP
  refine q_cnt0 (Q := fun i => ∀ c a b, P (nI i) c a b) nc ?_ ?_ c lg la
  · intro c a b
    exact hP _ _ _ _ ⟨fun _ => h _ _ _, fun g => absurd ((q_le (by omega) (by omega)).2 (Nat.le_refl nc)) g⟩
  · intro i hi ih c a b
    refine hP _ _ _ _ ⟨fun g => absurd ((q_le (by omega) (by omega)).1 g) (by omega), fun _ => ?_⟩
    rw [q_in (by omega)]
    refine ⟨hi, hi, fun x3 e3 E hE => ?_⟩
    clear e3
    have hE2 : ∀ k c a b, E k c a b := fun k c a b => hE _ _ _ _ (by
      intro E2 hE3
      unfold wX2_shortenCodes_L128
      intro R hR
      have fin : ∀ k c a b, E2 k c a b := fun k c a b => hE3 _ _ _ _ (fun x ex => by rw [ex, nI_1]; exact ih _ _ _)
      refine q_cnt0 (Q := fun k => ∀ c a b, R (nI k) c a b) 2 ?_ ?_ c a b
      · intro c a b
        exact hR _ _ _ _ ⟨fun _ => fin _ _ _ _, fun g => absurd ((q_le (by omega) (by omega)).2 (Nat.le_refl 2)) g⟩
      · intro k hk ihk c a b
        refine hR _ _ _ _ ⟨fun g => absurd ((q_le (a := 2) (by omega) (by omega)).1 g) (by omega), fun _ => ⟨fun _ => fin _ _ _ _, fun _ => ?_⟩⟩
        rw [show (4 : Int32) = nI 4 from rfl, nI_add, show (0 : Int32) + nI k = nI (0 + k) from by rw [← nI_add]; rfl, q_in (by omega)]
        refine al_any HH (by omega) (by omega) (fun r => ⟨hi, sh_any (by omega) (fun c a => al_any HH (by omega) (by omega) (fun r => sh_any (by omega) (fun c b x ex => by rw [ex, nI_1]; exact ihk _ _ _)))⟩))
    unfold wX2_shortenCodes_L39 wX10_steps
    intro R hR
    refine q_cnt0 (Q := fun s => ∀ c a b, R (nI s) c a b) st ?_ ?_ c a b
    · intro c a b
      exact hR _ _ _ _ ⟨fun _ => hE2 _ _ _ _, fun g => absurd ((q_le (by omega) (by omega)).2 (Nat.le_refl st)) g⟩
    · intro s hs ihs c a b
      refine hR _ _ _ _ ⟨fun g => absurd ((q_le (by omega) (by omega)).1 g) (by omega), fun _ => ⟨fun _ => hE2 _ _ _ _, fun _ => ?_⟩⟩
      have wl := (hW.2.2.2.2.1 s hs).2.1
      refine q_wOS H hs ?_
      refine im_any hn hi (by omega) (fun r => ?_)
      rw [q_in (by omega), q_in (by omega)]
      exact ⟨hi, by omega, sh_any (by omega) (fun c a => ⟨hi, by omega, sh_any (by omega) (fun c b x ex => by rw [ex, nI_1]; exact ihs _ _ _)⟩)⟩
theorem ref_any {bo n1 m1 t1 n2 m2 t2 : Nat} {w1 w2 : Nat → Nat} (HH : HeldOk y bo n1 m1 t1 n2 m2 t2 w1 w2) (hbo : bo = 0 ∨ bo = 1) (H : WhOk y sz st pr wo pa so wa nx ar pl sl) {nc : Nat} (hn : nc ≤ 64) {le lc ed : Int32} {im lw ls lg la : Nat → Int32} {K : Int32 → Int32 → (Nat → Int32) → (Nat → Int32) → (Nat → Int32) → (Nat → Int32) → Prop} (h : ∀ c a b d e, K ed c a b d e) : wX2_refresh le lc ed (nI bo) (fun j => nI (w1 j)) (fun j => nI (w2 j)) (nI sz) (nI st) wa nx ar pl im lw ls lg la nc K := by
  unfold wX2_refresh wX4_edition
  refine ⟨fun g => by rw [g]; exact h _ _ _ _ _, fun _ => ?_⟩
  refine far_any hn (fun a b d e => ?_)
  unfold wX4_wholes
  refine sh_any (by omega) (fun c1 a => ?_)
  refine q_stepOfPlain H (l := 2) (by omega) (by omega) (fun j _ _ => sh_any (by omega) (fun c2 b => ?_))
  refine q_stepOfPlain H (l := 3) (by omega) (by omega) (fun j _ _ => sh_any (by omega) (fun c3 b => ?_))
  intro E83 h83
  unfold wX2_refresh_L83
  intro P hP
  have fin : ∀ k c a b, E83 k c a b := fun k c a b => h83 _ _ _ _ (by
    unfold wX4_held
    have go : ∀ r, wX2_shorten r 0 c d nc (fun u19 u20 => ∀ E139 : Int32 → Int32 → (Nat → Int32) → (Nat → Int32) → Prop, (∀ i f g k, K ed f a b g k → E139 i f g k) → wX2_refresh_L139 (fun j => nI (w1 j)) (fun j => nI (w2 j)) (nI st) wa im nc b E139 (0 : Int32) (1 : Int32) u20 e) := fun r => sh_any (by omega) (fun c d E hE => by
      unfold wX2_refresh_L139
      intro R hR
      have fin : ∀ i f g k, E i f g k := fun i f g k => hE _ _ _ _ (h _ _ _ _ _)
      refine q_cnt0 (Q := fun k => ∀ c d e, R (nI k) c d e) 1000 ?_ ?_ 1 d e
      · intro c d e
        exact hR _ _ _ _ ⟨fun _ => fin _ _ _ _, fun g => absurd ((q_le (by omega) (by omega)).2 (Nat.le_refl 1000)) g⟩
      · intro k hk ihk c d e
        exact hR _ _ _ _ ⟨fun g => absurd ((q_le (a := 1000) (by omega) (by omega)).1 g) (by omega), fun _ => ⟨fun _ => fin _ _ _ _, fun _ => shC_any HH H hn (fun c d e x ex => by rw [ex, nI_1]; exact ihk _ _ _)⟩⟩)
    unfold wX1_beginning wX1_joinedCode
    exact ⟨fun _ => go _, fun _ => go _⟩)
  refine q_cnt0 (Q := fun k => ∀ c a b, P (nI k) c a b) 1000 ?_ ?_ 1 a b
  · intro c a b
    exact hP _ _ _ _ ⟨fun _ => fin _ _ _ _, fun g => absurd ((q_le (by omega) (by omega)).2 (Nat.le_refl 1000)) g⟩
  · intro k hk ihk c a b
    exact hP _ _ _ _ ⟨fun g => absurd ((q_le (a := 1000) (by omega) (by omega)).1 g) (by omega), fun _ => ⟨fun _ => fin _ _ _ _, fun _ => shW_any H (fun c a b x ex => by rw [ex, nI_1]; exact ihk _ _ _)⟩⟩
theorem least_any {bo n1 m1 t1 n2 m2 t2 : Nat} {w1 w2 : Nat → Nat} (HH : HeldOk y bo n1 m1 t1 n2 m2 t2 w1 w2) (hbo : bo = 0 ∨ bo = 1) (H : WhOk y sz st pr wo pa so wa nx ar pl sl) {nc : Nat} (hn : nc ≤ 64) {T : Nat} (hT : T < 18446744073709551616) {le lc ed : Int32} {im lw ls lg la : Nat → Int32} {K : Int32 → Int32 → Int32 → (Nat → Int32) → (Nat → Int32) → (Nat → Int32) → (Nat → Int32) → Prop} (h : ∀ v c a b d e, (T = 0 → v = -nI 1) → K v ed c a b d e) : wX2_least (lN T) le lc ed (nI bo) (fun j => nI (w1 j)) (fun j => nI (w2 j)) (nI sz) (nI st) wa nx ar pl im lw ls lg la nc K := by
  unfold wX2_least
  refine ref_any HH hbo H hn (fun c a b d e => ?_)
  unfold wX2_least_L10
  intro P hP
  refine q_cnt0 (Q := fun k => ∀ v : Int32, (T = 0 → v = 1000000000) → P v (nI k)) nc ?_ ?_ 1000000000 (fun _ => rfl)
  · intro v hv
    refine hP _ _ ⟨fun _ => ⟨fun _ => h _ _ _ _ _ _ (fun _ => rfl), fun g => h _ _ _ _ _ _ (fun e0 => absurd (show (1000000000 : Int32) ≤ v by rw [hv e0]; decide) g)⟩, fun g => absurd ((q_le (by omega) (by omega)).2 (Nat.le_refl nc)) g⟩
  · intro k hk ih v hv
    refine hP _ _ ⟨fun g => absurd ((q_le (by omega) (by omega)).1 g) (by omega), fun _ => ?_⟩
    rw [q_tst hT (by omega), q_in (by omega)]
    refine ⟨fun _ x ex => by rw [ex, nI_1]; exact ih v hv, fun g => ⟨hk, hk, fun x11 _ x12 _ x ex => ?_⟩⟩
    rw [ex, nI_1]
    exact ih _ (fun e0 => absurd (by rw [e0]; simp) g)
end
