def ncOk (y : Sy) (nc : Nat) : Prop := nc = if y.2.1 = 0 then 8 else 64
theorem nc_64 {y : Sy} {nc : Nat} (h : ncOk y nc) : nc ≤ 64 ∧ 8 ≤ nc := by unfold ncOk at h; split at h <;> omega
theorem S2_nc {y : Sy} {nc c : Nat} (h : ncOk y nc) (hc : S2 y c) : c < nc := by
  unfold ncOk at h
  split at h
  · rename_i g; have := S2_hi hc g; omega
  · have := hc.1; omega
/-- which images have been filled in -/
def FI (nc sz : Nat) (pr : Nat → Nat) (fl : Nat) (im : Nat → Int32) (sp : Nat → Int64) : Prop :=
  fl < 18446744073709551616 ∧ ∀ c, c < nc → fl.testBit c = true → (∀ i, i < sz → im (c * 60 + i) = nI (imc c (pr i))) ∧ ∃ b, b < 18446744073709551616 ∧ sp c = lN b ∧ ∀ q, b.testBit q = true ↔ ∃ i, i < sz ∧ q = imc c (pr i)
theorem q_pairAt {sz : Nat} {pr : Nat → Nat} {pa : Nat → Int32} (hz : sz ≤ 60) (hpa : ∀ i, i < sz → pa i = nI (pr i)) {i : Nat} (hi : i < sz) {K : Int32 → Prop} (h : K (nI (pr i))) : wX10_pairAt (nI i) (nI sz) pa K := by
  unfold wX10_pairAt
  simp (disch := omega) only [q_lit, nI_add, pk_mul, q_a1, q_a3, q_a7, q_a31, q_a63, q_a255, q_a511, q_or, q_shr, q_shl, q_le, q_lt, q_eq, q_in, q_cl, q_neg, q_neg', q_nlt0, q_nle, q_nlt, q_nle', q_nlt', forall_eq, true_implies, false_implies, not_true_eq_false, not_false_eq_true, and_true, true_and, Nat.reduceMod, Nat.reducePow, Nat.reduceAdd, Nat.reduceMul, Nat.reduceDiv, Nat.reduceSub, Nat.reduceEqDiff, Nat.reduceLeDiff, Nat.reduceLT]
  rw [hpa i hi]
  exact ⟨fun g => absurd g (by omega), fun _ => ⟨fun g => absurd g (by omega), fun _ => ⟨by omega, h⟩⟩⟩
theorem q_fill {y : Sy} {nc sz : Nat} {pr : Nat → Nat} {pa : Nat → Int32} (hn : ncOk y nc) (hz : sz ≤ 60) (hpa : ∀ i, i < sz → pa i = nI (pr i)) (hR : ∀ i, i < sz → R2 y (pr i)) {fl : Nat} {im : Nat → Int32} {sp : Nat → Int64} (F : FI nc sz pr fl im sp) {c : Nat} (hc : S2 y c) {K : Int64 → (Nat → Int32) → (Nat → Int64) → Prop}
    (h : ∀ fl' im' sp', FI nc sz pr fl' im' sp' → fl'.testBit c = true → (∀ q, fl.testBit q = true → fl'.testBit q = true) → K (lN fl') im' sp') : wX4_fill (nI c) (lN fl) (nI sz) pa im sp nc K := by
  have hcn := S2_nc hn hc
  have n64 := nc_64 hn
  obtain ⟨F1, F2⟩ := id F
  unfold wX4_fill
  rw [q_tst F1 (by omega), q_oneL (by omega)]
  simp (disch := omega) only [q_lit, nI_add, pk_mul, q_a1, q_a3, q_a7, q_a31, q_a63, q_a255, q_a511, q_or, q_shr, q_shl, q_le, q_lt, q_eq, q_in, q_cl, q_neg, q_neg', q_nlt0, q_nle, q_nlt, q_nle', q_nlt', forall_eq, true_implies, false_implies, not_true_eq_false, not_false_eq_true, and_true, true_and, Nat.reduceMod, Nat.reducePow, Nat.reduceAdd, Nat.reduceMul, Nat.reduceDiv, Nat.reduceSub, Nat.reduceEqDiff, Nat.reduceLeDiff, Nat.reduceLT]
  refine ⟨fun g => absurd g (by omega), fun _ => ⟨fun g => absurd g (by omega), fun _ => ⟨fun g => ?_, fun g => ?_⟩⟩⟩
  · rw [lN_or]
    refine ⟨by omega, ?_⟩
    unfold wX4_fill_L48
    intro P hP
    refine q_cnt0 (Q := fun i => ∀ im' sp', (∀ i', i' < i → im' (c * 60 + i') = nI (imc c (pr i'))) → (∃ b, b < 18446744073709551616 ∧ sp' c = lN b ∧ ∀ q, b.testBit q = true ↔ ∃ i', i' < i ∧ q = imc c (pr i')) → (∀ k, (∀ j, j < 60 → k ≠ c * 60 + j) → im' k = im k) → (∀ k, k ≠ c → sp' k = sp k) → P (nI i) im' sp') sz ?_ ?_ im _ (fun _ h => by omega) ⟨0, by omega, pk_uLs, fun q => by rw [tb_0]; exact ⟨False.elim, fun ⟨i', h, _⟩ => by omega⟩⟩ (fun _ _ => rfl) (fun k hk => pk_uLn hk)
    · intro im' sp' a1 a2 a3 a4
      refine hP _ _ _ ?_
      unfold wX10_size
      simp (disch := omega) only [q_lit, nI_add, pk_mul, q_a1, q_a3, q_a7, q_a31, q_a63, q_a255, q_a511, q_or, q_shr, q_shl, q_le, q_lt, q_eq, q_in, q_cl, q_neg, q_neg', q_nlt0, q_nle, q_nlt, q_nle', q_nlt', forall_eq, true_implies, false_implies, not_true_eq_false, not_false_eq_true, and_true, true_and, Nat.reduceMod, Nat.reducePow, Nat.reduceAdd, Nat.reduceMul, Nat.reduceDiv, Nat.reduceSub, Nat.reduceEqDiff, Nat.reduceLeDiff, Nat.reduceLT, Nat.le_refl]
      refine h (fl ||| 2 ^ c) im' sp' ⟨or_lt64 F1 (p2_lt64 (by omega)), fun c' hc' ht => ?_⟩ (tb_or.2 (.inr (tb_p2.2 rfl))) (fun q hq => tb_or.2 (.inl hq))
      by_cases e : c' = c
      · subst e; exact ⟨a1, a2⟩
      · have ht' : fl.testBit c' = true := by
          rcases tb_or.1 ht with h | h
          · exact h
          · exact absurd (tb_p2.1 h) e
        obtain ⟨b1, b2⟩ := F2 c' hc' ht'
        refine ⟨fun i hi => ?_, ?_⟩
        · rw [a3 _ (fun j hj => by omega)]; exact b1 i hi
        · rw [a4 c' e]; exact b2
    · intro i hi ih im' sp' a1 a2 a3 a4
      refine hP _ _ _ ?_
      unfold wX10_size
      have hlt := imc_lt c (pr i)
      simp (disch := omega) only [q_lit, nI_add, pk_mul, q_a1, q_a3, q_a7, q_a31, q_a63, q_a255, q_a511, q_or, q_shr, q_shl, q_le, q_lt, q_eq, q_in, q_cl, q_neg, q_neg', q_nlt0, q_nle, q_nlt, q_nle', q_nlt', forall_eq, true_implies, false_implies, not_true_eq_false, not_false_eq_true, and_true, true_and, Nat.reduceMod, Nat.reducePow, Nat.reduceAdd, Nat.reduceMul, Nat.reduceDiv, Nat.reduceSub, Nat.reduceEqDiff, Nat.reduceLeDiff, Nat.reduceLT]
      refine ⟨fun g => absurd g (by omega), fun _ => q_pairAt hz hpa hi (q_imageH hc.1 (hR i hi).1 ?_)⟩
      obtain ⟨b, b1, b2, b3⟩ := a2
      rw [q_oneL hlt, b2, lN_or]
      refine ⟨by omega, by omega, by omega, ih _ _ (fun i' hi' => ?_) ⟨b ||| 2 ^ imc c (pr i), or_lt64 b1 (p2_lt64 hlt), pk_uLs, fun q => ?_⟩ (fun k hk => ?_) (fun k hk => ?_)⟩
      · rw [q_ap]; split
        · rename_i e; rw [show i' = i from by omega]
        · exact a1 i' (by omega)
      · rw [tb_or, b3, tb_p2]
        constructor
        · rintro (⟨i', h1, h2⟩ | h1)
          · exact ⟨i', by omega, h2⟩
          · exact ⟨i, by omega, h1⟩
        · rintro ⟨i', h1, h2⟩
          by_cases e : i' = i
          · right; rw [h2, e]
          · left; exact ⟨i', by omega, h2⟩
      · rw [q_un (hk i (by omega))]; exact a3 k hk
      · rw [pk_uLn hk]; exact a4 k hk
  · refine h fl im sp F (by cases hb : fl.testBit c; exact absurd hb g; rfl) (fun q hq => hq)
section
variable {y : Sy} {nc sz : Nat} {pr : Nat → Nat} {pa : Nat → Int32}
theorem q_spread (hn : ncOk y nc) (hz : sz ≤ 60) (hpa : ∀ i, i < sz → pa i = nI (pr i)) (hR : ∀ i, i < sz → R2 y (pr i)) {fl : Nat} {im : Nat → Int32} {sp : Nat → Int64} (F : FI nc sz pr fl im sp) {a : Nat} (ha : a < 18446744073709551616) (hS : ∀ c, a.testBit c = true → S2 y c) {K : Int64 → Int64 → (Nat → Int32) → (Nat → Int64) → Prop}
    (h : ∀ b fl' im' sp', b < 18446744073709551616 → (∀ q, b.testBit q = true ↔ ∃ c i, a.testBit c = true ∧ i < sz ∧ q = imc c (pr i)) → FI nc sz pr fl' im' sp' → (∀ q, fl.testBit q = true ∨ a.testBit q = true ∨ b.testBit q = true → fl'.testBit q = true) → K (lN b) (lN fl') im' sp') : wX4_spread (lN a) (lN fl) (nI sz) pa im sp nc K := by
  have n64 := nc_64 hn
  unfold wX4_spread wX4_spread_L5
  intro P hP
  refine q_cnt0 (Q := fun k => ∀ b fl' im' sp', b < 18446744073709551616 → (∀ q, b.testBit q = true ↔ ∃ c i, c < k ∧ a.testBit c = true ∧ i < sz ∧ q = imc c (pr i)) → FI nc sz pr fl' im' sp' → (∀ q, fl.testBit q = true → fl'.testBit q = true) → (∀ q, q < k → a.testBit q = true → fl'.testBit q = true) → P (lN b) (nI k) (lN fl') im' sp') nc ?_ ?_ 0 fl im sp (by omega) (fun q => by rw [tb_0]; exact ⟨False.elim, fun ⟨c, i, h, _⟩ => by omega⟩) F (fun q hq => hq) (fun q hq => by omega)
  · intro b fl' im' sp' a1 a2 a3 a4 a5
    refine hP _ _ _ _ _ ?_
    simp (disch := omega) only [q_lit, nI_add, pk_mul, q_a1, q_a3, q_a7, q_a31, q_a63, q_a255, q_a511, q_or, q_shr, q_shl, q_le, q_lt, q_eq, q_in, q_cl, q_neg, q_neg', q_nlt0, q_nle, q_nlt, q_nle', q_nlt', forall_eq, true_implies, false_implies, not_true_eq_false, not_false_eq_true, and_true, true_and, Nat.reduceMod, Nat.reducePow, Nat.reduceAdd, Nat.reduceMul, Nat.reduceDiv, Nat.reduceSub, Nat.reduceEqDiff, Nat.reduceLeDiff, Nat.reduceLT, Nat.le_refl]
    have ac : ∀ c, a.testBit c = true → c < nc := fun c hc => S2_nc hn (hS c hc)
    have bS : ∀ q, b.testBit q = true → S2 y q := fun q hq => by
      obtain ⟨c, i, _, _, h2, h3⟩ := (a2 q).1 hq
      rw [h3]; exact S2_imc (hR i h2)
    unfold wX4_spread_L51
    intro P hP
    refine q_cnt0 (Q := fun k => ∀ fl2 im2 sp2, FI nc sz pr fl2 im2 sp2 → (∀ q, fl'.testBit q = true → fl2.testBit q = true) → (∀ q, q < k → b.testBit q = true → fl2.testBit q = true) → P (nI k) (lN fl2) im2 sp2) nc ?_ ?_ fl' im' sp' a3 (fun q hq => hq) (fun q hq => by omega)
    · intro fl2 im2 sp2 c1 c2 c3
      refine hP _ _ _ _ ?_
      simp (disch := omega) only [q_lit, nI_add, pk_mul, q_a1, q_a3, q_a7, q_a31, q_a63, q_a255, q_a511, q_or, q_shr, q_shl, q_le, q_lt, q_eq, q_in, q_cl, q_neg, q_neg', q_nlt0, q_nle, q_nlt, q_nle', q_nlt', forall_eq, true_implies, false_implies, not_true_eq_false, not_false_eq_true, and_true, true_and, Nat.reduceMod, Nat.reducePow, Nat.reduceAdd, Nat.reduceMul, Nat.reduceDiv, Nat.reduceSub, Nat.reduceEqDiff, Nat.reduceLeDiff, Nat.reduceLT, Nat.le_refl]
      refine h b fl2 im2 sp2 a1 (fun q => ?_) c1 (fun q hq => ?_)
      · rw [a2]
        exact ⟨fun ⟨c, i, _, h2, h3, h4⟩ => ⟨c, i, h2, h3, h4⟩, fun ⟨c, i, h2, h3, h4⟩ => ⟨c, i, ac c h2, h2, h3, h4⟩⟩
      · rcases hq with g | g | g
        · exact c2 q (a4 q g)
        · exact c2 q (a5 q (ac q g) g)
        · exact c3 q (S2_nc hn (bS q g)) g
    · intro k hk ih fl2 im2 sp2 c1 c2 c3
      refine hP _ _ _ _ ?_
      rw [q_tst a1 (by omega)]
      simp (disch := omega) only [q_lit, nI_add, pk_mul, q_a1, q_a3, q_a7, q_a31, q_a63, q_a255, q_a511, q_or, q_shr, q_shl, q_le, q_lt, q_eq, q_in, q_cl, q_neg, q_neg', q_nlt0, q_nle, q_nlt, q_nle', q_nlt', forall_eq, true_implies, false_implies, not_true_eq_false, not_false_eq_true, and_true, true_and, Nat.reduceMod, Nat.reducePow, Nat.reduceAdd, Nat.reduceMul, Nat.reduceDiv, Nat.reduceSub, Nat.reduceEqDiff, Nat.reduceLeDiff, Nat.reduceLT]
      refine ⟨fun g => absurd g (by omega), fun _ => ⟨fun g => ?_, fun g => ?_⟩⟩
      · exact ih fl2 im2 sp2 c1 c2 (fun q hq hb => by
          by_cases e : q = k
          · subst e; rw [g] at hb; exact absurd hb (by decide)
          · exact c3 q (by omega) hb)
      · have hb : b.testBit k = true := by cases hb : b.testBit k; exact absurd hb g; rfl
        refine q_fill hn hz hpa hR c1 (bS k hb) (fun fl3 im3 sp3 d1 d2 d3 => ?_)
        refine ih fl3 im3 sp3 d1 (fun q hq => d3 q (c2 q hq)) (fun q hq hbq => ?_)
        by_cases e : q = k
        · subst e; exact d2
        · exact d3 q (c3 q (by omega) hbq)
  · intro k hk ih b fl' im' sp' a1 a2 a3 a4 a5
    refine hP _ _ _ _ _ ?_
    rw [q_tst ha (by omega)]
    simp (disch := omega) only [q_lit, nI_add, pk_mul, q_a1, q_a3, q_a7, q_a31, q_a63, q_a255, q_a511, q_or, q_shr, q_shl, q_le, q_lt, q_eq, q_in, q_cl, q_neg, q_neg', q_nlt0, q_nle, q_nlt, q_nle', q_nlt', forall_eq, true_implies, false_implies, not_true_eq_false, not_false_eq_true, and_true, true_and, Nat.reduceMod, Nat.reducePow, Nat.reduceAdd, Nat.reduceMul, Nat.reduceDiv, Nat.reduceSub, Nat.reduceEqDiff, Nat.reduceLeDiff, Nat.reduceLT]
    refine ⟨fun g => absurd g (by omega), fun _ => ⟨fun g => ?_, fun g => ?_⟩⟩
    · refine ih b fl' im' sp' a1 (fun q => ?_) a3 a4 (fun q hq hb => ?_)
      · rw [a2]
        constructor
        · rintro ⟨c, i, h1, h2, h3, h4⟩; exact ⟨c, i, by omega, h2, h3, h4⟩
        · rintro ⟨c, i, h1, h2, h3, h4⟩
          refine ⟨c, i, ?_, h2, h3, h4⟩
          by_cases e : c = k
          · subst e; rw [g] at h2; exact absurd h2 (by decide)
          · omega
      · by_cases e : q = k
        · subst e; rw [g] at hb; exact absurd hb (by decide)
        · exact a5 q (by omega) hb
    · have hb : a.testBit k = true := by cases hb : a.testBit k; exact absurd hb g; rfl
      refine q_fill hn hz hpa hR a3 (hS k hb) (fun fl3 im3 sp3 d1 d2 d3 => ?_)
      obtain ⟨e1, s, s1, s2, s3⟩ := d1.2 k hk d2
      refine ⟨hk, ?_⟩
      rw [s2, lN_or]
      refine ih (b ||| s) fl3 im3 sp3 (or_lt64 a1 s1) (fun q => ?_) d1 (fun q hq => d3 q (a4 q hq)) (fun q hq hbq => ?_)
      · rw [tb_or, a2, s3]
        constructor
        · rintro (⟨c, i, h1, h2, h3, h4⟩ | ⟨i, h3, h4⟩)
          · exact ⟨c, i, by omega, h2, h3, h4⟩
          · exact ⟨k, i, by omega, hb, h3, h4⟩
        · rintro ⟨c, i, h1, h2, h3, h4⟩
          by_cases e : c = k
          · right; subst e; exact ⟨i, h3, h4⟩
          · left; exact ⟨c, i, by omega, h2, h3, h4⟩
      · by_cases e : q = k
        · subst e; exact d2
        · exact d3 q (a5 q (by omega) hbq)
end
section
variable {y : Sy} {bo n1 m1 t1 n2 m2 t2 : Nat} {w1 w2 : Nat → Nat} {nc sz : Nat} {pr : Nat → Nat} {pa : Nat → Int32}
theorem q_aloneS (hH : HeldOk y bo n1 m1 t1 n2 m2 t2 w1 w2) (hn : ncOk y nc) {a l : Nat} (hl : l = 0 ∨ l = 4) (ha : a < 18446744073709551616) (hS : ∀ c, a.testBit c = true → S2 y c) {K : Int64 → Prop}
    (h : ∀ b, b < 18446744073709551616 → (∀ q, b.testBit q = true ↔ ∃ c, a.testBit c = true ∧ (q = sA y l c ∨ q = sA y (l + 1) c)) → K (lN b)) : wX4_alone (lN a) (nI l) (fun j => nI (w1 j)) (fun j => nI (w2 j)) nc K := by
  have hy := HeldOk_Sy hH
  have n64 := nc_64 hn
  have hl6 : l + 1 < 6 := by omega
  unfold wX4_alone wX4_alone_L6
  intro P hP
  refine q_cnt0 (Q := fun k => ∀ b, b < 18446744073709551616 → (∀ q, b.testBit q = true ↔ ∃ c, c < k ∧ a.testBit c = true ∧ (q = sA y l c ∨ q = sA y (l + 1) c)) → P (lN b) (nI k)) nc ?_ ?_ 0 (by omega) (fun q => by rw [tb_0]; exact ⟨False.elim, fun ⟨c, h, _⟩ => by omega⟩)
  · intro b a1 a2
    refine hP _ _ ?_
    simp (disch := omega) only [q_lit, nI_add, pk_mul, q_a1, q_a3, q_a7, q_a31, q_a63, q_a255, q_a511, q_or, q_shr, q_shl, q_le, q_lt, q_eq, q_in, q_cl, q_neg, q_neg', q_nlt0, q_nle, q_nlt, q_nle', q_nlt', forall_eq, true_implies, false_implies, not_true_eq_false, not_false_eq_true, and_true, true_and, Nat.reduceMod, Nat.reducePow, Nat.reduceAdd, Nat.reduceMul, Nat.reduceDiv, Nat.reduceSub, Nat.reduceEqDiff, Nat.reduceLeDiff, Nat.reduceLT, Nat.le_refl]
    refine h b a1 (fun q => ?_)
    rw [a2]
    exact ⟨fun ⟨c, _, h2, h3⟩ => ⟨c, h2, h3⟩, fun ⟨c, h2, h3⟩ => ⟨c, S2_nc hn (hS c h2), h2, h3⟩⟩
  · intro k hk ih b a1 a2
    refine hP _ _ ?_
    rw [q_tst ha (by omega)]
    simp (disch := omega) only [q_lit, nI_add, pk_mul, q_a1, q_a3, q_a7, q_a31, q_a63, q_a255, q_a511, q_or, q_shr, q_shl, q_le, q_lt, q_eq, q_in, q_cl, q_neg, q_neg', q_nlt0, q_nle, q_nlt, q_nle', q_nlt', forall_eq, true_implies, false_implies, not_true_eq_false, not_false_eq_true, and_true, true_and, Nat.reduceMod, Nat.reducePow, Nat.reduceAdd, Nat.reduceMul, Nat.reduceDiv, Nat.reduceSub, Nat.reduceEqDiff, Nat.reduceLeDiff, Nat.reduceLT]
    refine ⟨fun g => absurd g (by omega), fun _ => ⟨fun g => ih b a1 (fun q => ?_), fun g => ?_⟩⟩
    · rw [a2]
      constructor
      · rintro ⟨c, h1, h2, h3⟩; exact ⟨c, by omega, h2, h3⟩
      · rintro ⟨c, h1, h2, h3⟩
        refine ⟨c, ?_, h2, h3⟩
        by_cases e : c = k
        · subst e; rw [g] at h2; exact absurd h2 (by decide)
        · omega
    · have hb : a.testBit k = true := by cases hb : a.testBit k; exact absurd hb g; rfl
      have s1 := (S2_A hy l k).1
      have s2 := (S2_A hy (l + 1) k).1
      refine q_aloneH hH (by omega) (hS k hb) (q_aloneH hH hl6 (hS k hb) ?_)
      rw [q_oneL s1, q_oneL s2, lN_or, lN_or]
      refine ih _ (or_lt64 a1 (or_lt64 (p2_lt64 s1) (p2_lt64 s2))) (fun q => ?_)
      rw [tb_or, tb_or, a2, tb_p2, tb_p2]
      constructor
      · rintro (⟨c, h1, h2, h3⟩ | h3)
        · exact ⟨c, by omega, h2, h3⟩
        · exact ⟨k, by omega, hb, h3⟩
      · rintro ⟨c, h1, h2, h3⟩
        by_cases e : c = k
        · right; subst e; exact h3
        · left; exact ⟨c, by omega, h2, h3⟩
/-- what is reached from the codes of a by letters l, l + 1 that have no partner, whole rows between -/
def RC (y : Sy) (sz : Nat) (pr : Nat → Nat) (l : Nat) (A : Nat → Prop) (q : Nat) : Prop := ∀ P : Nat → Prop, (∀ q, A q → P q) → (∀ c l' i, P c → (l' = l ∨ l' = l + 1) → i < sz → P (imc (sA y l' c) (pr i))) → P q
theorem RC_0 {l : Nat} {A : Nat → Prop} {q : Nat} (h : A q) : RC y sz pr l A q := fun _ h0 _ => h0 q h
theorem RC_s {l l' i c : Nat} {A : Nat → Prop} (h : RC y sz pr l A c) (hl : l' = l ∨ l' = l + 1) (hi : i < sz) : RC y sz pr l A (imc (sA y l' c) (pr i)) := fun P h0 h1 => h1 c l' i (h P h0 h1) hl hi
theorem RC_S2 (hy : SyOk y) (hR : ∀ i, i < sz → R2 y (pr i)) {l : Nat} {A : Nat → Prop} (hA : ∀ q, A q → S2 y q) {q : Nat} (h : RC y sz pr l A q) : S2 y q := h (S2 y) hA (fun c l' i _ _ hi => S2_imc (hR i hi))
theorem q_reachedP (hH : HeldOk y bo n1 m1 t1 n2 m2 t2 w1 w2) (hn : ncOk y nc) (hz : sz ≤ 60) (hpa : ∀ i, i < sz → pa i = nI (pr i)) (hR : ∀ i, i < sz → R2 y (pr i)) {fl : Nat} {im : Nat → Int32} {sp : Nat → Int64} (F : FI nc sz pr fl im sp) {a l : Nat} (hl : l = 0 ∨ l = 4) (ha : a < 18446744073709551616) (hS : ∀ c, a.testBit c = true → S2 y c) (hne : ∃ c, a.testBit c = true) (hfa : ∀ q, a.testBit q = true → fl.testBit q = true) {K : Int64 → Int64 → (Nat → Int32) → (Nat → Int64) → Prop}
    (h : ∀ r fl' im' sp', r < 18446744073709551616 → (∀ q, r.testBit q = true ↔ RC y sz pr l (fun q => a.testBit q = true) q) → FI nc sz pr fl' im' sp' → (∀ q, fl.testBit q = true ∨ r.testBit q = true → fl'.testBit q = true) → (∀ c, r.testBit c = true → fl'.testBit (sA y l c) = true ∧ fl'.testBit (sA y (l + 1) c) = true) → K (lN r) (lN fl') im' sp') :
    wX4_reached (lN a) (nI l) (lN fl) (fun j => nI (w1 j)) (fun j => nI (w2 j)) (nI sz) pa im sp nc K := by
  have hy := HeldOk_Sy hH
  have n64 := nc_64 hn
  unfold wX4_reached wX4_reached_L6
  intro P hP
  refine q_cnt0 (Q := fun k => ∀ r fl' im' sp', r < 18446744073709551616 → (∀ q, a.testBit q = true → r.testBit q = true) → (∀ q, r.testBit q = true → RC y sz pr l (fun q => a.testBit q = true) q) → k + 1 ≤ cdN (fun q => r.testBit q) 64 → FI nc sz pr fl' im' sp' → (∀ q, fl.testBit q = true ∨ r.testBit q = true → fl'.testBit q = true) → P (lN r) (nI k) (lN fl') im' sp') 64 ?_ ?_ a fl im sp ha (fun q hq => hq) (fun q hq => RC_0 hq) (by obtain ⟨c, hc⟩ := hne; exact cdN_pos (tb_lt64 ha hc) hc) F (fun q hq => hq.elim id (hfa q))
  · intro r fl' im' sp' a1 a2 a3 a4
    have := cdN_le (fun q => r.testBit q) 64
    omega
  · intro k hk ih r fl' im' sp' a1 a2 a3 a4 a5 a6
    refine hP _ _ _ _ _ ?_
    simp (disch := omega) only [q_lit, nI_add, pk_mul, q_a1, q_a3, q_a7, q_a31, q_a63, q_a255, q_a511, q_or, q_shr, q_shl, q_le, q_lt, q_eq, q_in, q_cl, q_neg, q_neg', q_nlt0, q_nle, q_nlt, q_nle', q_nlt', forall_eq, true_implies, false_implies, not_true_eq_false, not_false_eq_true, and_true, true_and, Nat.reduceMod, Nat.reducePow, Nat.reduceAdd, Nat.reduceMul, Nat.reduceDiv, Nat.reduceSub, Nat.reduceEqDiff, Nat.reduceLeDiff, Nat.reduceLT]
    refine ⟨fun g => absurd g (by omega), fun _ => ?_⟩
    have rS : ∀ c, r.testBit c = true → S2 y c := fun c hc => RC_S2 hy hR hS (a3 c hc)
    refine q_aloneS hH hn hl a1 rS (fun b b1 b2 => ?_)
    have bS : ∀ c, b.testBit c = true → S2 y c := fun c hc => by
      obtain ⟨c', _, h3 | h3⟩ := (b2 c).1 hc
      · rw [h3]; exact S2_A hy _ _
      · rw [h3]; exact S2_A hy _ _
    refine q_spread hn hz hpa hR a5 b1 bS (fun s fl2 im2 sp2 s1 s2 s3 s4 => ?_)
    rw [lN_or]
    rw [show nI 0 = (0 : Int32) from rfl, q_lg, lN_inj (or_lt64 a1 s1) a1]
    refine ⟨fun g => ?_, fun g => ?_⟩
    · have cl : ∀ q, s.testBit q = true → r.testBit q = true := fun q hq => by rw [← g]; exact tb_or.2 (.inr hq)
      refine h r fl2 im2 sp2 a1 (fun q => ⟨a3 q, fun hq => hq (fun q => r.testBit q = true) a2 (fun c l' i hc hl' hi => cl _ ((s2 _).2 ⟨sA y l' c, i, (b2 _).2 ⟨c, hc, ?_⟩, hi, rfl⟩))⟩) s3 (fun q hq => ?_) (fun c hc => ⟨s4 _ (.inr (.inl ((b2 _).2 ⟨c, hc, .inl rfl⟩))), s4 _ (.inr (.inl ((b2 _).2 ⟨c, hc, .inr rfl⟩)))⟩)
      · rcases hl' with e | e
        · left; rw [e]
        · right; rw [e]
      · exact s4 q (.inl (a6 q hq))
    · refine ih (r ||| s) fl2 im2 sp2 (or_lt64 a1 s1) (fun q hq => tb_or.2 (.inl (a2 q hq))) (fun q hq => ?_) ?_ s3 (fun q hq => ?_)
      · rcases tb_or.1 hq with g' | g'
        · exact a3 q g'
        · obtain ⟨c, i, c1, c2, c3⟩ := (s2 q).1 g'
          obtain ⟨c', d1, d2⟩ := (b2 c).1 c1
          rw [c3]
          rcases d2 with e | e
          · rw [e]; exact RC_s (a3 c' d1) (.inl rfl) c2
          · rw [e]; exact RC_s (a3 c' d1) (.inr rfl) c2
      · obtain ⟨q, hq1, hq2⟩ : ∃ q, (r ||| s).testBit q = true ∧ r.testBit q = false := by
          apply Classical.byContradiction
          intro hno
          apply g
          apply tb_ext
          intro q
          constructor
          · intro hq
            cases hr : r.testBit q
            · exact absurd ⟨q, hq, hr⟩ hno
            · rfl
          · intro hq; exact tb_or.2 (.inl hq)
        have := cdN_lt (p := fun q => r.testBit q) (q := fun q => (r ||| s).testBit q) (fun i hi => tb_or.2 (.inl hi)) 64 q (tb_lt64 (or_lt64 a1 s1) hq1) hq2 hq1
        omega
      · rcases hq with g' | g'
        · exact s4 q (.inl (a6 q (.inl g')))
        · rcases tb_or.1 g' with g2 | g2
          · exact s4 q (.inl (a6 q (.inr g2)))
          · exact s4 q (.inr (.inr g2))
end
