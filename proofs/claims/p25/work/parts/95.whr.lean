section
variable {y : Sy} {sz st : Nat} {pr wo : Nat → Nat} {pa so wa nx ar pl sl : Nat → Int32}
theorem q_findW (hy : SyOk y) (H : WhOk y sz st pr wo pa so wa nx ar pl sl) {i : Nat} (hi : i < sz) {K : Int32 → Prop} (h : K (nI i)) : wX10_find (nI (pr i)) pa sl K := by
  obtain ⟨hW, _⟩ := id H
  have z60 := hW.1
  obtain ⟨sv, hs⟩ := hW.2.2.2.1
  have b : ∀ i, i < sz → pr i < 262144 := fun i hi => WI_pr hy hW hi
  unfold wX10_find
  refine q_slotOf z60 (fun i hi => (hW.2.1 i hi).1) b hs (b i hi) (fun s j hs2 hj e1 e2 => ?_) (fun d _ _ _ hno => absurd rfl (hno i hi))
  have : j = i := hW.2.2.1 j i hj hi e2
  subst this
  rw [q_in (by omega), q_cl (by omega), (hs.1 s hs2).1, e1, show (1 : Int32) = nI 1 from rfl, q_subN (by omega), Nat.add_sub_cancel]
  exact ⟨fun g => absurd g (nI_pos (by omega)), fun _ => ⟨hs2, h⟩⟩
theorem q_afterW (H : WhOk y sz st pr wo pa so wa nx ar pl sl) {i s : Nat} (hi : i < sz) (hs : s < st) {K : Int32 → Prop} (h : ∀ k, k < sz → pr k = thn (pr i) (pr (wo s)) → K (nI k)) : wX10_after (nI i) (nI s) (nI sz) (nI st) nx K := by
  obtain ⟨hW, _, _, hN, _⟩ := id H
  have z60 := hW.1
  have s60 := WI_st hW
  obtain ⟨k, hk, ek, e2⟩ := hN i s hi hs
  unfold wX10_after
  rw [show (60 : Int32) = nI 60 from rfl, pk_mul, nI_add, q_in (by omega), q_cl (by omega), ek]
  exact ⟨fun g => absurd g (nI_pos (by omega)), fun _ => ⟨fun g => absurd ((q_le (by omega) (by omega)).1 g) (by omega), fun _ => ⟨fun g => absurd g (nI_pos (by omega)), fun _ => ⟨fun g => absurd ((q_le (by omega) (by omega)).1 g) (by omega), fun _ => ⟨by omega, h k hk e2⟩⟩⟩⟩⟩
theorem q_aroundW (H : WhOk y sz st pr wo pa so wa nx ar pl sl) {i v : Nat} (hi : i < sz) (hv : v < 4) {K : Int32 → Prop} (h : ∀ j, j < st → pr (wo j) = sB y (v / 2) (4 + v % 2) (pr i) → K (nI j)) : wX10_stepAround (nI i) (nI v) (nI sz) ar K := by
  obtain ⟨hW, _, _, _, hA, _⟩ := id H
  have z60 := hW.1
  obtain ⟨j, hj, ej, e2⟩ := hA i hi v hv
  unfold wX10_stepAround
  rw [show (4 : Int32) = nI 4 from rfl, pk_mul, nI_add, q_in (by omega), q_cl (by omega), ej]
  exact ⟨fun g => absurd g (nI_pos (by omega)), fun _ => ⟨fun g => absurd ((q_le (by omega) (by omega)).1 g) (by omega), fun _ => ⟨fun g => absurd g (nI_pos (by omega)), fun _ => ⟨fun g => absurd ((q_le (by omega) (by omega)).1 g) (by omega), fun _ => ⟨by omega, h j hj e2⟩⟩⟩⟩⟩
theorem q_followersW (H : WhOk y sz st pr wo pa so wa nx ar pl sl) {i : Nat} (hi : i < sz) {K : Int64 → Prop} (h : ∀ b, b < 18446744073709551616 → (∀ k, b.testBit k = true ↔ k < sz ∧ ∃ s, s < st ∧ pr k = thn (pr i) (pr (wo s))) → K (lN b)) : wX10_followers (nI i) (nI sz) (nI st) nx K := by
  obtain ⟨hW, _⟩ := id H
  have z60 := hW.1
  have s60 := WI_st hW
  unfold wX10_followers wX10_followers_L5
  intro P hP
  refine q_cnt0 (Q := fun j => ∀ b, b < 18446744073709551616 → (∀ k, b.testBit k = true ↔ k < sz ∧ ∃ s, s < j ∧ pr k = thn (pr i) (pr (wo s))) → P (lN b) (nI j)) st ?_ ?_ 0 (by omega) (fun k => ⟨fun g => absurd (tb_0.1 g) id, fun ⟨_, s, hs, _⟩ => by omega⟩)
  · intro b hb e
    exact hP _ _ ⟨fun _ => h b hb e, fun g => absurd ((q_le (by omega) (by omega)).2 (Nat.le_refl st)) g⟩
  · intro j hj ih b hb e
    refine hP _ _ ⟨fun g => absurd ((q_le (by omega) (by omega)).1 g) (by omega), fun _ => ?_⟩
    refine q_afterW H hi hj (fun k hk ek => ?_)
    intro x ex z ez
    rw [ex, ez, nI_1, q_oneL (by omega), lN_or]
    refine ih _ (or_lt64 hb (p2_lt64 (by omega))) (fun q => ?_)
    rw [tb_or, e, tb_p2]
    constructor
    · rintro (⟨h1, s, h2, h3⟩ | g)
      · exact ⟨h1, s, by omega, h3⟩
      · rw [g]; exact ⟨hk, j, by omega, ek⟩
    · rintro ⟨h1, s, h2, h3⟩
      by_cases g : s = j
      · right
        rw [g, ← ek] at h3
        exact hW.2.2.1 q k h1 hk h3
      · left; exact ⟨h1, s, by omega, h3⟩
/-- what wholes any steps behind wholes of a set come to -/
def RWs (y : Sy) (X : Nat → Prop) (x : Nat) : Prop := ∀ P : Nat → Prop, (∀ x, X x → P x) → (∀ u s, P u → stpS y (WS y) s → P (thn u s)) → P x
def bW2 (pr : Nat → Nat) (sz a : Nat) (x : Nat) : Prop := ∃ i, i < sz ∧ a.testBit i = true ∧ pr i = x
theorem q_reachedW (H : WhOk y sz st pr wo pa so wa nx ar pl sl) {a : Nat} (ha : a < 18446744073709551616) (hS : ∀ i, a.testBit i = true → i < sz) (hne : ∃ i, a.testBit i = true) {K : Int64 → Prop}
    (h : ∀ r, r < 18446744073709551616 → (∀ i, r.testBit i = true ↔ i < sz ∧ RWs y (bW2 pr sz a) (pr i)) → K (lN r)) : wX10_reached (lN a) (nI sz) (nI st) nx K := by
  obtain ⟨hW, _⟩ := id H
  have z60 := hW.1
  have hSt := WhOk_steps H
  unfold wX10_reached wX10_reached_L5
  intro P hP
  obtain ⟨i0, hi0⟩ := hne
  refine q_cnt0 (Q := fun k => ∀ r, r < 18446744073709551616 → (∀ i, a.testBit i = true → r.testBit i = true) → (∀ i, r.testBit i = true → i < sz ∧ RWs y (bW2 pr sz a) (pr i)) → k + 1 ≤ cdN (fun q => r.testBit q) 60 → P (lN r) (nI k)) 60 ?_ ?_ a ha (fun i hi => hi) (fun i hi => ⟨hS i hi, fun P h1 _ => h1 _ ⟨i, hS i hi, hi, rfl⟩⟩) (by have := cdN_pos (p := fun q => a.testBit q) (n := 60) (j := i0) (by have := hS i0 hi0; omega) hi0; omega)
  · intro r a1 a2 a3 a4
    have := cdN_le (fun q => r.testBit q) 60
    omega
  · intro k hk ih r a1 a2 a3 a4
    refine hP _ _ ⟨fun g => absurd ((q_le (a := 60) (by omega) (by omega)).1 g) (by omega), fun _ => ?_⟩
    unfold wX10_reached_L18
    intro R hR
    refine q_cnt0 (Q := fun i => ∀ b, b < 18446744073709551616 → (∀ q, b.testBit q = true ↔ r.testBit q = true ∨ (q < sz ∧ ∃ j s, j < i ∧ r.testBit j = true ∧ s < st ∧ pr q = thn (pr j) (pr (wo s)))) → R (lN b) (nI i)) sz ?_ ?_ r a1 (fun q => ⟨fun g => .inl g, fun g => by
      rcases g with g | ⟨_, j, s, hj, _⟩
      · exact g
      · omega⟩)
    · intro b hb e
      refine hR _ _ ⟨fun _ => ?_, fun g => absurd ((q_le (by omega) (by omega)).2 (Nat.le_refl sz)) g⟩
      dsimp only
      rw [q_lg, lN_inj hb a1]
      refine ⟨fun g => ?_, fun g => ?_⟩
      · rw [g] at e
        refine h r a1 (fun i => ⟨a3 i, fun ⟨hi, hr⟩ => ?_⟩)
        have := hr (fun x => ∃ i, i < sz ∧ r.testBit i = true ∧ pr i = x) (fun x ⟨i, hi, hb, e⟩ => ⟨i, hi, a2 i hb, e⟩) (fun u s ⟨j, hj, hb, e1⟩ hs => by
          obtain ⟨t, ht, et⟩ := hSt.2.2 s hs
          obtain ⟨q, hq, eq, e2⟩ := H.2.2.2.1 j t hj ht
          have et : pr (wo t) = s := et
          exact ⟨q, hq, (e q).2 (.inr ⟨hq, j, t, hj, hb, ht, e2⟩), by rw [e2, e1, et]⟩)
        obtain ⟨j, hj, hb, e1⟩ := this
        rw [← hW.2.2.1 j i hj hi e1]; exact hb
      · intro z ez
        rw [ez, nI_1]
        have up : ∀ q, r.testBit q = true → b.testBit q = true := fun q hq => (e q).2 (.inl hq)
        refine ih b hb (fun i hi => up i (a2 i hi)) (fun q hq => ?_) ?_
        · rcases (e q).1 hq with g1 | ⟨g1, j, s, g2, g3, g4, g5⟩
          · exact a3 q g1
          · refine ⟨g1, fun P h1 h2 => ?_⟩
            rw [g5]
            exact h2 _ _ ((a3 j g3).2 P h1 h2) (hSt.1 s g4)
        · obtain ⟨q, hq1, hq2⟩ : ∃ q, b.testBit q = true ∧ r.testBit q = false := by
            apply Classical.byContradiction
            intro hno
            apply g
            apply tb_ext
            intro q
            constructor
            · intro hq
              cases hr : r.testBit q
              · exact absurd ⟨q, hq, hr⟩ hno
              · rfl
            · exact up q
          have q60 : q < 60 := by
            rcases (e q).1 hq1 with g1 | ⟨g1, _⟩
            · rw [g1] at hq2; exact absurd hq2 (by decide)
            · omega
          have := cdN_lt (p := fun q => r.testBit q) (q := fun q => b.testBit q) up 60 q q60 hq2 hq1
          omega
    · intro i hi ihi b hb e
      refine hR _ _ ⟨fun g => absurd ((q_le (by omega) (by omega)).1 g) (by omega), fun _ => ?_⟩
      rw [q_tst a1 (by omega)]
      refine ⟨fun g z ez => ?_, fun g => ?_⟩
      · rw [ez, nI_1]
        refine ihi b hb (fun q => ?_)
        rw [e]
        constructor
        · rintro (g1 | ⟨g1, j, s, g2, g3, g4, g5⟩)
          · exact .inl g1
          · exact .inr ⟨g1, j, s, by omega, g3, g4, g5⟩
        · rintro (g1 | ⟨g1, j, s, g2, g3, g4, g5⟩)
          · exact .inl g1
          · by_cases ej : j = i
            · rw [ej, g] at g3; exact absurd g3 (by decide)
            · exact .inr ⟨g1, j, s, by omega, g3, g4, g5⟩
      · have g : r.testBit i = true := by cases e2 : r.testBit i
                                          · exact absurd e2 g
                                          · rfl
        refine q_followersW H hi (fun c hc ec => ?_)
        intro x ex z ez
        rw [ex, ez, nI_1, lN_or]
        refine ihi _ (or_lt64 hb hc) (fun q => ?_)
        rw [tb_or, e, ec]
        constructor
        · rintro ((g1 | ⟨g1, j, s, g2, g3, g4, g5⟩) | ⟨g1, s, g4, g5⟩)
          · exact .inl g1
          · exact .inr ⟨g1, j, s, by omega, g3, g4, g5⟩
          · exact .inr ⟨g1, i, s, by omega, g, g4, g5⟩
        · rintro (g1 | ⟨g1, j, s, g2, g3, g4, g5⟩)
          · exact .inl (.inl g1)
          · by_cases ej : j = i
            · rw [ej] at g5; exact .inr ⟨g1, s, g4, g5⟩
            · exact .inl (.inr ⟨g1, j, s, by omega, g3, g4, g5⟩)
theorem q_codesFrom (H : WhOk y sz st pr wo pa so wa nx ar pl sl) (hy : SyOk y) {nc fl : Nat} (hn : ncOk y nc) {im : Nat → Int32} {sp : Nat → Int64} (F : FI nc sz pr fl im sp) {c : Nat} (hc : fl.testBit c = true) (hcn : c < nc) {a : Nat} (ha : a < 18446744073709551616) {K : Int64 → Prop}
    (h : ∀ b, b < 18446744073709551616 → (∀ q, b.testBit q = true ↔ ∃ i, i < sz ∧ a.testBit i = true ∧ q = imc c (pr i)) → K (lN b)) : wX4_codesFrom (nI c) (lN a) (nI sz) im nc K := by
  obtain ⟨hW, _⟩ := id H
  have z60 := hW.1
  have n64 := nc_64 hn
  unfold wX4_codesFrom wX4_codesFrom_L6 wX10_size
  intro P hP
  refine q_cnt0 (Q := fun j => ∀ b, b < 18446744073709551616 → (∀ q, b.testBit q = true ↔ ∃ i, i < j ∧ a.testBit i = true ∧ q = imc c (pr i)) → P (lN b) (nI j)) sz ?_ ?_ 0 (by omega) (fun k => ⟨fun g => absurd (tb_0.1 g) id, fun ⟨i, hi, _⟩ => by omega⟩)
  · intro b hb e
    exact hP _ _ ⟨fun _ => h b hb e, fun g => absurd ((q_le (by omega) (by omega)).2 (Nat.le_refl sz)) g⟩
  · intro i hi ih b hb e
    refine hP _ _ ⟨fun g => absurd ((q_le (by omega) (by omega)).1 g) (by omega), fun _ => ?_⟩
    rw [q_tst ha (by omega)]
    refine ⟨fun g z ez => ?_, fun g => ?_⟩
    · rw [ez, nI_1]
      refine ih b hb (fun q => ?_)
      rw [e]
      constructor
      · rintro ⟨j, h1, h2, h3⟩
        exact ⟨j, by omega, h2, h3⟩
      · rintro ⟨j, h1, h2, h3⟩
        by_cases ej : j = i
        · rw [ej, g] at h2; exact absurd h2 (by decide)
        · exact ⟨j, by omega, h2, h3⟩
    · have g : a.testBit i = true := by cases e2 : a.testBit i
                                        · exact absurd e2 g
                                        · rfl
      unfold wX4_image
      intro x ex
      have e2 : x = nI (c * 60 + i) := by rw [ex, show (60 : Int32) = nI 60 from rfl, pk_mul, nI_add]
      have i64 := imc_lt c (pr i)
      rw [e2, q_in (by omega), q_cl (by omega), (F.2 c hcn hc).1 i hi]
      refine ⟨fun g => absurd g (nI_pos (by omega)), fun _ => ⟨fun g => absurd ((q_le (by omega) (by omega)).1 g) (by omega), fun _ => ⟨by omega, ?_⟩⟩⟩
      intro x ex z ez
      rw [ex, ez, nI_1, q_oneL i64, lN_or]
      refine ih _ (or_lt64 hb (p2_lt64 i64)) (fun q => ?_)
      rw [tb_or, e, tb_p2]
      constructor
      · rintro (⟨j, h1, h2, h3⟩ | h3)
        · exact ⟨j, by omega, h2, h3⟩
        · exact ⟨i, by omega, g, h3⟩
      · rintro ⟨j, h1, h2, h3⟩
        by_cases ej : j = i
        · rw [ej] at h3; exact .inr h3
        · exact .inl ⟨j, by omega, h2, h3⟩
theorem q_closedAround (H : WhOk y sz st pr wo pa so wa nx ar pl sl) {l o : Nat} (hl : l < 2) (ho : o < sz) {a : Nat} (ha : a < 18446744073709551616) {K : Int64 → Prop}
    (h : ∀ b, b < 18446744073709551616 → (∀ k, b.testBit k = true ↔ k < sz ∧ ∃ i e, i < sz ∧ a.testBit i = true ∧ 4 ≤ e ∧ e < 6 ∧ pr k = thn (pr o) (sB y l e (pr i))) → K (lN b)) : wX4_closedAround (nI l) (nI o) (lN a) (nI sz) (nI st) nx ar K := by
  obtain ⟨hW, _⟩ := id H
  have z60 := hW.1
  unfold wX4_closedAround wX4_closedAround_L6 wX10_size
  intro P hP
  refine q_cnt0 (Q := fun j => ∀ b, b < 18446744073709551616 → (∀ k, b.testBit k = true ↔ k < sz ∧ ∃ i e, i < j ∧ a.testBit i = true ∧ 4 ≤ e ∧ e < 6 ∧ pr k = thn (pr o) (sB y l e (pr i))) → P (lN b) (nI j)) sz ?_ ?_ 0 (by omega) (fun k => ⟨fun g => absurd (tb_0.1 g) id, fun ⟨_, i, e, hi, _⟩ => by omega⟩)
  · intro b hb e
    exact hP _ _ ⟨fun _ => h b hb e, fun g => absurd ((q_le (by omega) (by omega)).2 (Nat.le_refl sz)) g⟩
  · intro i hi ih b hb e
    refine hP _ _ ⟨fun g => absurd ((q_le (by omega) (by omega)).1 g) (by omega), fun _ => ?_⟩
    rw [q_tst ha (by omega)]
    refine ⟨fun g z ez => ?_, fun g => ?_⟩
    · rw [ez, nI_1]
      refine ih b hb (fun q => ?_)
      rw [e]
      constructor
      · rintro ⟨hk, j, v, h1, h2, h3⟩
        exact ⟨hk, j, v, by omega, h2, h3⟩
      · rintro ⟨hk, j, v, h1, h2, h3⟩
        by_cases ej : j = i
        · rw [ej, g] at h2; exact absurd h2 (by decide)
        · exact ⟨hk, j, v, by omega, h2, h3⟩
    · have g : a.testBit i = true := by cases e2 : a.testBit i
                                        · exact absurd e2 g
                                        · rfl
      have bt : ∀ {k : Nat} {K : Int64 → Prop}, k < 60 → K (lN (2 ^ k)) → wX4_bit (nI k) K := fun {k K} hk h => by
        unfold wX4_bit
        rw [q_oneL (by omega)]
        exact ⟨fun g => absurd g (nI_pos (by omega)), fun _ => h⟩
      rw [show (2 : Int32) = nI 2 from rfl, pk_mul, show (1 : Int32) = nI 1 from rfl, nI_add]
      refine q_aroundW H hi (v := 2 * l) (by omega) (fun j1 hj1 e1 => ?_)
      refine q_afterW H ho hj1 (fun k1 hk1 ek1 => bt (by omega) ?_)
      intro x8 e8
      rw [lN_or] at e8
      subst e8
      refine q_aroundW H hi (v := 2 * l + 1) (by omega) (fun j2 hj2 e2 => ?_)
      refine q_afterW H ho hj2 (fun k2 hk2 ek2 => bt (by omega) ?_)
      intro x12 e12 z ez
      rw [lN_or] at e12
      rw [e12, ez, nI_add]
      rw [e1, show 2 * l / 2 = l from by omega, show 4 + 2 * l % 2 = 4 from by omega] at ek1
      rw [e2, show (2 * l + 1) / 2 = l from by omega, show 4 + (2 * l + 1) % 2 = 5 from by omega] at ek2
      refine ih _ (or_lt64 (or_lt64 hb (p2_lt64 (by omega))) (p2_lt64 (by omega))) (fun q => ?_)
      rw [tb_or, tb_or, e, tb_p2, tb_p2]
      constructor
      · rintro ((⟨hk, j, v, h1, h2⟩ | h3) | h3)
        · exact ⟨hk, j, v, by omega, h2⟩
        · rw [h3]; exact ⟨hk1, i, 4, by omega, g, by omega, by omega, ek1⟩
        · rw [h3]; exact ⟨hk2, i, 5, by omega, g, by omega, by omega, ek2⟩
      · rintro ⟨hk, j, v, h1, h2, h3, h4, h5⟩
        by_cases ej : j = i
        · rw [ej] at h5
          rcases (show v = 4 ∨ v = 5 by omega) with ev | ev <;> rw [ev] at h5
          · exact .inl (.inr (hW.2.2.1 q k1 hk hk1 (by rw [h5, ek1])))
          · exact .inr (hW.2.2.1 q k2 hk hk2 (by rw [h5, ek2]))
        · exact .inl (.inl ⟨hk, j, v, by omega, h2, h3, h4, h5⟩)
end
