def bgN (n : Nat) : Nat := [0, 1, 2, 3, 7, 28].getD n 0
def enN (n : Nat) : Nat := if n < 5 then bgN (n + 1) else 150
theorem bg_ms : ∀ n, n < 6 → ms_beg n = nI (bgN n) ∧ bgN n < 150 ∧ bgN n < enN n ∧ enN n ≤ 150 ∧ 6 ^ n ≤ 64 * (enN n - bgN n) := by decide +kernel
theorem bg_dis : ∀ n, n < 6 → ∀ k, k < 6 → n = k ∨ enN n ≤ bgN k ∨ enN k ≤ bgN n := by decide +kernel
theorem q_cutX {d z : Nat} (h : d ≤ z) (hz : z ≤ 24) {K : Int32 → Prop} (hK : K (nI d)) : wX6_cut (nI d) (nI z) K := by
  unfold wX6_cut
  refine ⟨fun g => absurd g (nI_pos (by omega)), fun _ => ⟨fun g => ?_, fun _ => hK⟩⟩
  have : z = d := by have := (q_le (by omega) (by omega)).1 g; omega
  rw [this]; exact hK
theorem RowC_cutX {z d : Nat} {lt : Nat → Nat} {ls bs : Nat → Int32} (R : RowC z lt ls bs) (h : d ≤ z) : RowC d lt ls bs :=
  ⟨by have := R.1; omega, R.2.1, fun i hi => R.2.2.1 i (by omega), fun k hk => R.2.2.2 k (by omega)⟩
/-- the listing's words -/
def WdOk (Wd : Nat → Nat) (wd : Nat → Int64) : Prop := ∀ q, q < 150 → wd q = lN (Wd q) ∧ Wd q < 18446744073709551616
theorem q_keep {n code : Nat} (hn : n ≤ 5) (hc : code < 6 ^ n) {Wd : Nat → Nat} {wd : Nat → Int64} (H : WdOk Wd wd) {K : (Nat → Int64) → Prop}
    (h : ∀ wd', WdOk (updN Wd (bgN n + code / 64) (Wd (bgN n + code / 64) ||| 2 ^ (code % 64))) wd' → K wd') : wX3_keep (nI n) (nI code) wd K := by
  have pn := p6 n hn
  have b := bg_ms n (by omega)
  have q150 : bgN n + code / 64 < 150 := by omega
  unfold wX3_keep
  rw [q_in (by omega), q_cl (by omega), b.1]
  refine ⟨by omega, ?_⟩
  intro x1 e1
  rw [show (64 : Int32) = nI 64 from rfl, q_divN (by omega) (by omega) (by omega), nI_add] at e1
  subst e1
  refine ⟨fun g => absurd g (nI_pos (by omega)), fun _ => ⟨fun g => absurd ((q_le (a := 150) (by omega) (by omega)).1 g) (by omega), fun _ => ?_⟩⟩
  rw [q_in (by omega), q_cl (by omega)]
  refine ⟨by omega, ?_⟩
  intro x4 e4
  refine ⟨by omega, ?_⟩
  intro g5 e5
  rw [show (64 : Int32) = nI 64 from rfl, pk_rem (by omega) (by omega) (by omega), q_oneL (by omega), (H _ q150).1, lN_or] at e4
  rw [e5, e4]
  refine h _ (fun q hq => ?_)
  unfold updN
  rw [q_apL]
  by_cases g : q = bgN n + code / 64
  · rw [if_pos g, if_pos g]
    exact ⟨rfl, or_lt64 (H _ q150).2 (p2_lt64 (by omega))⟩
  · rw [if_neg g, if_neg g]; exact H q hq
theorem pw_s {c r l : Nat} : c / 6 ^ (r + 1) = c / 6 ^ r / 6 := by rw [Nat.pow_succ, Nat.div_div_eq_div_mul]
section
variable {ns m t : Nat} {w : Nat → Nat}
theorem q_grow (W : WfR ns m t w) {n : Nat} (hn : n ≤ 5) : ∀ r d code, d + r = n → code < 6 ^ d → ∀ f, r < f → ∀ {z : Nat} {lt : Nat → Nat} {ls bs co si : Nat → Int32} {Wd : Nat → Nat} {wd : Nat → Int64}, RowC z lt ls bs → d ≤ z → (∀ j, j < d → lt j = ltC d code j) → WkC w ns lt d co si → WdOk Wd wd →
    ∀ {K : Int32 → (Nat → Int32) → (Nat → Int32) → (Nat → Int32) → (Nat → Int32) → (Nat → Int64) → Prop},
    (∀ z' lt' ls' bs' co' si' Wd' wd', RowC z' lt' ls' bs' → d ≤ z' → (∀ j, j < d → lt' j = lt j) → WkC w ns lt' d co' si' → WdOk Wd' wd' → (∀ q b, (Wd' q).testBit b = true ↔ (Wd q).testBit b = true ∨ ∃ c, c < 6 ^ n ∧ c / 6 ^ r = code ∧ takC w ns t n c = true ∧ q = bgN n + c / 64 ∧ b = c % 64) → K (nI z') ls' bs' co' si' wd') →
    wX3_grow f (nI d) (nI code) (nI n) (nI m) (nI t) (fun j => nI (w j)) (nI z) ls bs (nI (idn ns)) co si wd K := by
  intro r
  induction r with
  | zero =>
    intro d code hd hc f hf z lt ls bs co si Wd wd R hz hl H HW K h
    have hd : d = n := by omega
    subst hd
    obtain ⟨f', rfl⟩ : ∃ f', f = f' + 1 := ⟨f - 1, by omega⟩
    show wX3_grow_B _ _ _ _ _ _ _ _ _ _ _ _ _ _ _
    unfold wX3_grow_B
    refine q_comeAt (by omega) (H d (Nat.le_refl d)).1 ?_
    intro J hJ
    have hJ' : ∀ wd', (∀ z' lt' ls' bs' co' si', z' = z → lt' = lt → ls' = ls → bs' = bs → co' = co → si' = si → K (nI z') ls' bs' co' si' wd') → J wd' := fun wd' hk => hJ _ ⟨fun _ => hk _ _ _ _ _ _ rfl rfl rfl rfl rfl rfl, fun g => absurd ((q_le (by omega) (by omega)).2 (Nat.le_refl d)) g⟩
    have et : takC w ns t d code = tkB t (cmA w ns lt d) := by
      unfold takC
      rw [cmA_congr (fun i hi => (hl i hi).symm)]
    refine ⟨fun _ => ?_, fun g => absurd rfl g⟩
    refine q_takesAny (cs_lt W lt d).1 ?_
    by_cases g : cmA w ns lt d &&& t = 0
    · rw [if_pos g]
      have nt : takC w ns t d code = false := by rw [et]; unfold tkB; rw [g]; rfl
      refine ⟨fun _ => hJ' _ (fun z' lt' ls' bs' co' si' e1 e2 e3 e4 e5 e6 => ?_), fun g => absurd rfl g⟩
      subst e1; subst e2; subst e3; subst e4; subst e5; subst e6
      refine h _ _ _ _ _ _ _ _ R hz (fun j hj => rfl) H HW (fun q b => ⟨fun g => .inl g, fun g => g.elim id ?_⟩)
      rintro ⟨c, h1, h2, h3, h4⟩
      rw [Nat.pow_zero, Nat.div_one] at h2
      rw [h2, nt] at h3; exact absurd h3 (by decide)
    · rw [if_neg g]
      have nt : takC w ns t d code = true := by rw [et]; unfold tkB; simpa using g
      refine ⟨fun g => absurd g (by decide), fun _ => ?_⟩
      refine q_keep (by omega) hc HW (fun wd' HW' => hJ' _ (fun z' lt' ls' bs' co' si' e1 e2 e3 e4 e5 e6 => ?_))
      subst e1; subst e2; subst e3; subst e4; subst e5; subst e6
      refine h _ _ _ _ _ _ _ _ R hz (fun j hj => rfl) H HW' (fun q b => ?_)
      unfold updN
      by_cases g : q = bgN d + code / 64
      · rw [if_pos g, tb_or, tb_p2, ← g]
        refine or_congr_right ⟨fun e => ⟨code, hc, by rw [Nat.pow_zero, Nat.div_one], nt, g, e⟩, ?_⟩
        rintro ⟨c, h1, h2, h3, h4, h5⟩
        rw [Nat.pow_zero, Nat.div_one] at h2
        rw [h2] at h5; exact h5
      · rw [if_neg g]
        refine ⟨fun e => .inl e, fun e => e.elim id ?_⟩
        rintro ⟨c, h1, h2, h3, h4, h5⟩
        rw [Nat.pow_zero, Nat.div_one] at h2
        rw [h2] at h4; exact absurd h4 g
  | succ r ih =>
    intro d code hd hc f hf z lt ls bs co si Wd wd R hz hl H HW K h
    have z24 := R.1
    obtain ⟨f', rfl⟩ : ∃ f', f = f' + 1 := ⟨f - 1, by omega⟩
    show wX3_grow_B _ _ _ _ _ _ _ _ _ _ _ _ _ _ _
    unfold wX3_grow_B
    refine q_comeAt (by omega) (H d (Nat.le_refl d)).1 ?_
    intro J hJ
    have c8 := (cs_lt W lt d).1
    refine ⟨fun g => absurd ((q_eq (by omega) (by omega)).1 g) (by omega), fun _ => hJ _ ⟨fun g => absurd ((q_le (by omega) (by omega)).1 g) (by omega), fun _ => ⟨fun g => absurd ((q_le (a := 5) (by omega) (by omega)).1 g) (by omega), fun _ => ⟨fun g => ?_, fun g => ?_⟩⟩⟩⟩
    · have g : cmA w ns lt d = 0 := (q_eq (b := 0) (by omega) (by omega)).1 g
      refine h _ _ _ _ _ _ _ _ R hz (fun j hj => rfl) H HW (fun q b => ⟨fun g9 => .inl g9, fun g9 => g9.elim id ?_⟩)
      rintro ⟨c, h1, h2, h3, _⟩
      exfalso
      have e0 : cmA w ns (ltC n c) d = 0 := by
        rw [← g]
        refine cmA_congr (fun i hi => ?_)
        rw [hl i hi, ← hd, ltC_pre hi, h2]
      have := cm_dead2 W e0 (r + 1)
      rw [hd] at this
      unfold takC tkB at h3
      rw [this] at h3
      simp at h3
    · unfold wX3_grow_L52
      intro P hP
      refine q_cnt0 (Q := fun l => ∀ z1 lt1 ls1 bs1 co1 si1 Wd1 wd1, RowC z1 lt1 ls1 bs1 → d ≤ z1 → (∀ j, j < d → lt1 j = lt j) → WkC w ns lt1 d co1 si1 → WdOk Wd1 wd1 → (∀ q b, (Wd1 q).testBit b = true ↔ (Wd q).testBit b = true ∨ ∃ c, c < 6 ^ n ∧ c / 6 ^ (r + 1) = code ∧ c / 6 ^ r % 6 < l ∧ takC w ns t n c = true ∧ q = bgN n + c / 64 ∧ b = c % 64) → P (nI l) (nI z1) ls1 bs1 co1 si1 wd1) 6 ?_ ?_ z lt ls bs co si Wd wd R hz (fun j hj => rfl) H HW (fun q b => ⟨fun g => .inl g, fun g => g.elim id (fun ⟨c, _, _, h3, _⟩ => absurd h3 (by omega))⟩)
      · intro z1 lt1 ls1 bs1 co1 si1 Wd1 wd1 R1 hz1 hl1 H1 HW1 hb
        refine hP _ _ _ _ _ _ _ ⟨fun _ => h _ _ _ _ _ _ _ _ R1 hz1 hl1 H1 HW1 (fun q b => ?_), fun g => absurd ((q_le (by omega) (by omega)).2 (Nat.le_refl 6)) g⟩
        rw [hb]
        refine or_congr_right ⟨fun ⟨c, h1, h2, h3, h4⟩ => ⟨c, h1, h2, h4⟩, fun ⟨c, h1, h2, h4⟩ => ⟨c, h1, h2, Nat.mod_lt _ (by omega), h4⟩⟩
      · intro l hl6 ihl z1 lt1 ls1 bs1 co1 si1 Wd1 wd1 R1 hz1 hl1 H1 HW1 hb
        refine hP _ _ _ _ _ _ _ ⟨fun g => absurd ((q_le (a := 6) (by omega) (by omega)).1 g) (by omega), fun _ => ?_⟩
        refine q_cutX hz1 R1.1 (q_append (RowC_cutX R1 hz1) (by omega) hl6 (fun bs2 R2 => ?_))
        have cg : ∀ i, i < d → lt1 i = updN lt1 d l i := fun i hi => by unfold updN; rw [if_neg (by omega)]
        refine q_stepC W R2 (by omega) (WkC_congr cg H1) (fun co2 si2 H2 old => ?_)
        rw [show (1 : Int32) = nI 1 from rfl, nI_add, show (6 : Int32) = nI 6 from rfl, pk_mul, nI_add]
        refine ih (d + 1) (code * 6 + l) (by omega) (by rw [Nat.pow_succ]; omega) f' (by omega) R2 (Nat.le_refl _) (fun j hj => ?_) H2 HW1 (fun z3 lt3 ls3 bs3 co3 si3 Wd3 wd3 R3 hz3 hl3 H3 HW3 hb3 => ?_)
        · by_cases e : j = d
          · rw [e, ltC_top hl6]; unfold updN; rw [if_pos rfl]
          · rw [ltC_s hl6 (by omega), ← cg j (by omega), hl1 j (by omega), hl j (by omega)]
        · intro x18 e18
          rw [e18, nI_add]
          refine ihl _ _ _ _ _ _ _ _ R3 (by omega) (fun j hj => by rw [hl3 j (by omega), ← cg j hj, hl1 j hj]) (fun k hk => H3 k (by omega)) HW3 (fun q b => ?_)
          rw [hb3, hb, or_assoc]
          refine or_congr_right ?_
          constructor
          · rintro (⟨c, h1, h2, h3, h4⟩ | ⟨c, h1, h2, h4⟩)
            · exact ⟨c, h1, h2, by omega, h4⟩
            · refine ⟨c, h1, ?_, by rw [h2]; omega, h4⟩
              rw [pw_s (l := 0), h2]; omega
          · rintro ⟨c, h1, h2, h3, h4⟩
            by_cases g : c / 6 ^ r % 6 < l
            · exact .inl ⟨c, h1, h2, g, h4⟩
            · refine .inr ⟨c, h1, ?_, h4⟩
              rw [pw_s (l := 0)] at h2
              omega
end
