theorem q_placeOf {a : Nat} (ha : a < 18446744073709551616) {i : Nat} (hi : i < cdN (fun q => a.testBit q) 64) {K : Int32 → Prop} (h : ∀ b, b < 64 → a.testBit b = true → cdN (fun q => a.testBit q) b = i → K (nI b)) : wX3_placeOf (lN a) (nI i) K := by
  have i64 : i < 64 := Nat.lt_of_lt_of_le hi (cdN_le _ 64)
  unfold wX3_placeOf wX3_placeOf_L5
  intro P hP
  refine q_cnt0 (Q := fun b => cdN (fun q => a.testBit q) b ≤ i → P (nI (i - cdN (fun q => a.testBit q) b)) (nI b)) 64 ?_ ?_ (Nat.zero_le i)
  · intro g; omega
  · intro b hb ih hle
    refine hP _ _ ⟨fun g => absurd ((q_le (a := 64) (by omega) (by omega)).1 g) (by omega), fun _ => ?_⟩
    have es := cdN_s (fun q => a.testBit q) b
    rw [q_tst ha hb]
    refine ⟨fun g x3 e3 => ?_, fun g => ?_⟩
    · rw [e3, nI_1]
      have es : cdN (fun q => a.testBit q) (b + 1) = cdN (fun q => a.testBit q) b := by rw [es]; simp [g]
      rw [← es]
      exact ih (by omega)
    · have g : a.testBit b = true := by cases e : a.testBit b
                                        · exact absurd e g
                                        · rfl
      have es : cdN (fun q => a.testBit q) (b + 1) = cdN (fun q => a.testBit q) b + 1 := by rw [es]; simp [g]
      rw [show (0 : Int32) = nI 0 from rfl, q_eq (by omega) (by omega)]
      refine ⟨fun g2 => h b hb g (by omega), fun g2 x5 e5 x6 e6 => ?_⟩
      rw [e6, nI_1, e5, show (-1 : Int32) = -nI 1 from rfl, q_addn (by omega), show i - cdN (fun q => a.testBit q) b - 1 = i - (cdN (fun q => a.testBit q) b + 1) from by omega, ← es]
      exact ih (by omega)
theorem q_nthRow {n : Nat} (hn : n ≤ 5) {T : Nat → Bool} {Wd : Nat → Nat} {wd : Nat → Int64} (H : WdOk Wd wd) (hb : ∀ q, bgN n ≤ q → q < enN n → ∀ b, (Wd q).testBit b = true ↔ ∃ c, c < 6 ^ n ∧ T c = true ∧ q = bgN n + c / 64 ∧ b = c % 64) {i : Nat} (hi : i < 2147483648) {K : Int32 → Prop}
    (h : ∀ v, ((∃ c, c < 6 ^ n ∧ T c = true ∧ cdN T c = i ∧ v = nI c) ∨ ((∀ c, c < 6 ^ n → T c = true → cdN T c ≠ i) ∧ v = -nI 1)) → K v) : wX3_numberOf (nI n) (nI i) wd K := by
  have pn := p6 n hn
  have b5 := bg_ms n (by omega)
  let Bt : Nat → Bool := fun c => (Wd (bgN n + c / 64)).testBit (c % 64)
  have eB : ∀ c, c < 64 * (enN n - bgN n) → (Bt c = true ↔ c < 6 ^ n ∧ T c = true) := fun c hc => by
    show (Wd (bgN n + c / 64)).testBit (c % 64) = true ↔ _
    rw [hb _ (by omega) (by omega)]
    constructor
    · rintro ⟨d, h1, h2, h3, h4⟩
      have : c = d := by omega
      rw [this]; exact ⟨h1, h2⟩
    · rintro ⟨h1, h2⟩
      exact ⟨c, h1, h2, rfl, rfl⟩
  have eC : ∀ c, c ≤ 6 ^ n → cdN Bt c = cdN T c := fun c hc => cdN_congr c (fun j hj => by
    have := eB j (by omega)
    cases e1 : Bt j <;> cases e2 : T j <;> rw [e1, e2] at this <;> first | rfl | (exfalso; simp at this; omega) | (exfalso; simp at this))
  have eW : ∀ j b, b < 64 → Bt (64 * j + b) = (Wd (bgN n + j)).testBit b := fun j b hb => by
    show (Wd (bgN n + (64 * j + b) / 64)).testBit ((64 * j + b) % 64) = _
    rw [show (64 * j + b) / 64 = j from by omega, show (64 * j + b) % 64 = b from by omega]
  have eA : ∀ j b, b ≤ 64 → cdN Bt (64 * j + b) = cdN Bt (64 * j) + cdN (fun q => (Wd (bgN n + j)).testBit q) b := fun j b hb => by
    rw [cdN_add]
    congr 1
    exact cdN_congr b (fun q hq => eW j q (by omega))
  unfold wX3_numberOf
  intro J hJ
  have main : J (nI (enN n)) := by
    refine hJ _ ?_
    rw [q_in (by omega), q_cl (by omega), b5.1]
    refine ⟨by omega, ?_⟩
    intro x1 e1
    subst e1
    unfold wX3_numberOf_L29
    intro P hP
    have key : ∀ j, j ≤ enN n - bgN n → cdN Bt (64 * j) ≤ i → P (nI (i - cdN Bt (64 * j))) (nI (bgN n + j)) := by
      refine fun j hj => q_cnt (Q := fun j => cdN Bt (64 * j) ≤ i → P (nI (i - cdN Bt (64 * j))) (nI (bgN n + j))) (N := enN n - bgN n) ?_ ?_ j hj
      · intro hle
        refine hP _ _ ⟨fun _ => h _ (.inr ⟨fun c hc hT => ?_, rfl⟩), fun g => absurd ((q_le (by omega) (by omega)).2 (by omega)) g⟩
        have hB : Bt c = true := (eB c (by omega)).2 ⟨hc, hT⟩
        have := cdN_hit (show c < 64 * (enN n - bgN n) by omega) hB
        rw [eC c (by omega)] at this
        omega
      · intro j hj ih hle
        have q150 : bgN n + j < 150 := by omega
        refine hP _ _ ⟨fun g => absurd ((q_le (by omega) (by omega)).1 g) (by omega), fun _ => ?_⟩
        rw [q_in (by omega), q_cl (by omega), (H _ q150).1]
        refine ⟨q150, q_bitCountL (H _ q150).2 ?_⟩
        have c64 := cdN_le (fun q => (Wd (bgN n + j)).testBit q) 64
        have e64 := eA j 64 (by omega)
        refine ⟨fun g x5 e5 x6 e6 => ?_, fun g => ?_⟩
        · have g := (q_le (by omega) (by omega)).1 g
          rw [e6, nI_1, e5, q_subN g]
          have := ih (by rw [show 64 * (j + 1) = 64 * j + 64 from by omega, e64]; omega)
          rw [show 64 * (j + 1) = 64 * j + 64 from by omega, e64, show i - (cdN Bt (64 * j) + cdN (fun q => (Wd (bgN n + j)).testBit q) 64) = i - cdN Bt (64 * j) - cdN (fun q => (Wd (bgN n + j)).testBit q) 64 from by omega] at this
          exact this
        · have g : i - cdN Bt (64 * j) < cdN (fun q => (Wd (bgN n + j)).testBit q) 64 := by
            rcases Nat.lt_or_ge (i - cdN Bt (64 * j)) (cdN (fun q => (Wd (bgN n + j)).testBit q) 64) with g2 | g2
            · exact g2
            · exact absurd ((q_le (by omega) (by omega)).2 g2) g
          refine ⟨by rw [q_in (by omega)]; omega, q150, ?_⟩
          refine q_placeOf (H _ q150).2 g (fun b hb64 hbt hbc => ?_)
          have hB : Bt (64 * j + b) = true := by rw [eW j b hb64]; exact hbt
          have hT := (eB (64 * j + b) (by omega)).1 hB
          refine h _ (.inl ⟨64 * j + b, hT.1, hT.2, ?_, ?_⟩)
          · rw [← eC _ (by omega), eA j b (by omega), hbc]; omega
          · rw [q_cl (by omega), b5.1, q_subN (by omega), show bgN n + j - bgN n = j from by omega, show (64 : Int32) = nI 64 from rfl, pk_mul, nI_add, Nat.mul_comm j 64]
    have := key 0 (by omega) (Nat.zero_le i)
    exact this
  refine ⟨fun g => ?_, fun g => ?_⟩
  · have g := (q_le (a := 5) (by omega) (by omega)).1 g
    have e : enN n = 150 := by unfold enN; rw [if_neg (by omega)]
    rw [e] at main; exact main
  · have g : n < 5 := by
      rcases Nat.lt_or_ge n 5 with g2 | g2
      · exact g2
      · exact absurd ((q_le (a := 5) (by omega) (by omega)).2 g2) g
    have e : enN n = bgN (n + 1) := by unfold enN; rw [if_pos g]
    rw [nI_1, q_in (by omega), q_cl (by omega), (bg_ms (n + 1) (by omega)).1, ← e]
    exact ⟨by omega, main⟩
section
variable {ns m t : Nat} {w : Nat → Nat}
/-- the listing: what is listed is right as long as the reader hasn't changed -/
def LsOk (w : Nat → Nat) (ns t : Nat) (Wd : Nat → Nat) (li : Nat → Int32) : Prop := ∀ n, n ≤ 5 → (li n = 0 ∧ ∀ q, bgN n ≤ q → q < enN n → Wd q = 0) ∨ (li n = 1 ∧ ∀ q, bgN n ≤ q → q < enN n → ∀ b, (Wd q).testBit b = true ↔ ∃ c, c < 6 ^ n ∧ takC w ns t n c = true ∧ q = bgN n + c / 64 ∧ b = c % 64)
def LInv (w : Nat → Nat) (ns t ch : Nat) (sn rz : Int32) (rl rb : Nat → Int32) (wd : Nat → Int64) (li : Nat → Int32) : Prop := (∃ z lt, rz = nI z ∧ RowC z lt rl rb) ∧ ∃ Wd, WdOk Wd wd ∧ (sn = -nI 1 ∨ ∃ s, s ≤ ch ∧ sn = nI s) ∧ (sn = nI ch → LsOk w ns t Wd li)
theorem q_forget {ch : Nat} (hch : ch < 2147483648) {sn : Int32} {Wd : Nat → Nat} {wd : Nat → Int64} {li : Nat → Int32} (HW : WdOk Wd wd) (hv : sn = nI ch → LsOk w ns t Wd li) {K : Int32 → (Nat → Int64) → (Nat → Int32) → Prop}
    (h : ∀ Wd' wd' li', WdOk Wd' wd' → LsOk w ns t Wd' li' → K (nI ch) wd' li') : wX3_forgetIfChanged sn (nI ch) wd li K := by
  unfold wX3_forgetIfChanged wX5_changes
  refine ⟨fun g => by have := h _ _ _ HW (hv g); rw [g]; exact this, fun _ => ?_⟩
  unfold wX3_forgetIfChanged_L28
  intro P hP
  refine q_cnt0 (Q := fun k => ∀ wd, (∀ q, q < k → wd q = lN 0) → P (nI k) wd) 150 ?_ ?_ wd (fun q hq => by omega)
  · intro wd hw
    refine hP _ _ ⟨fun _ => ?_, fun g => absurd ((q_le (by omega) (by omega)).2 (Nat.le_refl 150)) g⟩
    unfold wX3_forgetIfChanged_L50
    intro R hR
    refine q_cnt0 (Q := fun k => ∀ li, (∀ q, q < k → li q = nI 0) → R (nI k) li) 6 ?_ ?_ li (fun q hq => by omega)
    · intro li hl
      refine hR _ _ ⟨fun _ => h (fun _ => 0) wd li (fun q hq => ⟨hw q hq, by show 0 < 18446744073709551616; omega⟩) (fun n hn => .inl ⟨hl n (by omega), fun q _ _ => rfl⟩), fun g => absurd ((q_lt (a := 5) (by omega) (by omega)).2 (by omega)) g⟩
    · intro k hk ih li hl
      refine hR _ _ ⟨fun g => absurd ((q_lt (a := 5) (by omega) (by omega)).1 g) (by omega), fun _ => ?_⟩
      rw [q_in (by omega), q_cl (by omega)]
      refine ⟨by omega, fun g6 e6 x7 e7 => ?_⟩
      rw [e7, nI_1, e6]
      refine ih _ (fun q hq => ?_)
      rw [q_ap]
      by_cases g : q = k
      · rw [if_pos g]; exact nar_b false
      · rw [if_neg g]; exact hl q (by omega)
  · intro k hk ih wd hw
    refine hP _ _ ⟨fun g => absurd ((q_le (a := 150) (by omega) (by omega)).1 g) (by omega), fun _ => ?_⟩
    rw [q_in (by omega), q_cl (by omega)]
    refine ⟨by omega, fun g6 e6 x7 e7 => ?_⟩
    rw [e7, nI_1, e6]
    refine ih _ (fun q hq => ?_)
    rw [q_apL]
    by_cases g : q = k
    · rw [if_pos g]; rfl
    · rw [if_neg g]; exact hw q (by omega)
theorem q_ltAt (W : WfR ns m t w) {ch : Nat} (hch : ch < 2147483648) {sn rz sm : Int32} {rl rb co si : Nat → Int32} {wd : Nat → Int64} {li : Nat → Int32} (L : LInv w ns t ch sn rz rl rb wd li) {n i k : Nat} (hn : n ≤ 5) (hi : i < 2147483648) (hk : k < 2147483648)
    {K : Int32 → Int32 → Int32 → (Nat → Int32) → (Nat → Int32) → Int32 → (Nat → Int32) → (Nat → Int32) → (Nat → Int64) → (Nat → Int32) → Prop}
    (h : ∀ v sn rz rl rb sm co si wd li, ofV (takC w ns t n) n i k v → LInv w ns t ch sn rz rl rb wd li → K v sn rz rl rb sm co si wd li) :
    wX3_letterAt (nI n) (nI i) (nI k) sn (nI ns) (nI m) (nI t) (nI ch) (fun j => nI (w j)) rz rl rb sm co si wd li K := by
  unfold wX3_letterAt
  refine ⟨fun g => absurd g (nI_pos (by omega)), fun _ => ⟨fun g => absurd ((q_lt (a := 5) (by omega) (by omega)).1 g) (by omega), fun _ => ⟨fun g => absurd g (nI_pos (by omega)), fun _ => ⟨fun g => ?_, fun g => ?_⟩⟩⟩⟩
  · have kn := (q_lt (by omega) (by omega)).1 g
    obtain ⟨⟨z, lt, ez, R⟩, Wd, HW, hs, hv⟩ := L
    subst ez
    refine q_forget hch HW hv (fun Wd' wd' li' HW' L' => ?_)
    rw [q_in (by omega), q_cl (by omega)]
    refine ⟨by omega, ?_⟩
    intro J hJ
    have fin : ∀ z lt rl rb sm co si Wd wd li, RowC z lt rl rb → WdOk Wd wd → LsOk w ns t Wd li → (∀ q, bgN n ≤ q → q < enN n → ∀ b, (Wd q).testBit b = true ↔ ∃ c, c < 6 ^ n ∧ takC w ns t n c = true ∧ q = bgN n + c / 64 ∧ b = c % 64) → J (nI z) rl rb sm co si wd li := by
      intro z lt rl rb sm co si Wd wd li R HW hL hb
      have L9 : LInv w ns t ch (nI ch) (nI z) rl rb wd li := ⟨⟨z, lt, rfl, R⟩, Wd, HW, .inr ⟨ch, Nat.le_refl _, rfl⟩, fun _ => hL⟩
      refine hJ _ _ _ _ _ _ _ _ (q_nthRow hn HW hb hi (fun v hv => ?_))
      intro x9 e9 E hE
      unfold wX3_letterAt_L79
      intro P hP
      rw [show (1 : Int32) = nI 1 from rfl, q_subN (by omega)] at e9
      subst e9
      rcases hv with ⟨c, hc, hT, hcc, e⟩ | ⟨no, e⟩
      · subst e
        have pn := p6 n hn
        have key : ∀ d, k + d ≤ n - 1 → P (nI (c / 6 ^ (n - 1 - (k + d)))) (nI (k + d)) := by
          intro d
          induction d with
          | zero =>
            intro _
            have l1 := Nat.div_le_self c (6 ^ (n - 1 - (k + 0)))
            refine hP _ _ ⟨fun _ => hE _ _ ⟨fun g => absurd g (nI_pos (by omega)), fun _ => ?_⟩, fun g => absurd ((q_le (by omega) (by omega)).2 (by omega)) g⟩
            refine h _ _ _ _ _ _ _ _ _ _ (.inl ⟨c, hc, hT, hcc, .inl ⟨kn, ?_⟩⟩) L9
            rw [show (6 : Int32) = nI 6 from rfl, pk_rem (by omega) (by omega) (by omega)]
            rfl
          | succ d ih =>
            intro hd
            have l1 := Nat.div_le_self c (6 ^ (n - 1 - (k + (d + 1))))
            refine hP _ _ ⟨fun g => absurd ((q_le (by omega) (by omega)).1 g) (by omega), fun _ => ⟨fun g => absurd g (nI_pos (by omega)), fun _ => ?_⟩⟩
            intro x13 e13 x14 e14
            rw [show (6 : Int32) = nI 6 from rfl, q_divN (by omega) (by omega) (by omega), Nat.div_div_eq_div_mul, ← Nat.pow_succ, show (n - 1 - (k + (d + 1))).succ = n - 1 - (k + d) from by omega] at e13
            rw [show (-1 : Int32) = -nI 1 from rfl, q_addn (by omega), show k + (d + 1) - 1 = k + d from by omega] at e14
            rw [e13, e14]
            exact ih (by omega)
        have := key (n - 1 - k) (by omega)
        rw [show k + (n - 1 - k) = n - 1 from by omega, Nat.sub_self, Nat.pow_zero, Nat.div_one] at this
        exact this
      · subst e
        have hh := hE (-nI 1) (nI (n - 1)) ⟨fun _ => h _ _ _ _ _ _ _ _ _ _ (.inr ⟨no, rfl⟩) L9, fun g => absurd (show -nI 1 < (0 : Int32) by decide) g⟩
        exact hP _ _ ⟨fun _ => hh, fun _ => ⟨fun _ => hh, fun g => absurd (show -nI 1 < (0 : Int32) by decide) g⟩⟩
    rcases L' n hn with ⟨e0, hz⟩ | ⟨e1, hb⟩
    · rw [e0]
      refine ⟨fun _ => ⟨by omega, ?_⟩, fun g => absurd rfl g⟩
      intro g16 eg
      rw [show (0 : Int32) = nI 0 from rfl]
      refine q_cutX (Nat.zero_le z) R.1 (q_beginC W.1 W.2.1 (w := w) (lt := lt) (fun co' si' H => ?_))
      refine q_grow (t := t) W hn n 0 0 (by omega) (by rw [Nat.pow_zero]; omega) 7 (by omega) (RowC_cutX R (Nat.zero_le z)) (Nat.le_refl 0) (fun j hj => by omega) H HW' (fun z' lt' ls' bs' co'' si'' Wd'' wd'' R' _ _ _ HW'' hb => ?_)
      have hb' : ∀ q, bgN n ≤ q → q < enN n → ∀ b, (Wd'' q).testBit b = true ↔ ∃ c, c < 6 ^ n ∧ takC w ns t n c = true ∧ q = bgN n + c / 64 ∧ b = c % 64 := fun q h1 h2 b => by
        rw [hb, hz q h1 h2]
        constructor
        · rintro (g | ⟨c, a1, a2, a3⟩)
          · exact absurd g (by simp)
          · exact ⟨c, a1, a3⟩
        · rintro ⟨c, a1, a3⟩
          exact .inr ⟨c, a1, Nat.div_eq_of_lt a1, a3⟩
      refine fin _ _ _ _ _ _ _ _ _ _ R' HW'' ?_ hb'
      intro k hk
      rw [eg, q_ap]
      by_cases g : k = n
      · rw [if_pos g]
        rw [g]
        exact .inr ⟨nar_b true, hb'⟩
      · rw [if_neg g]
        have same : ∀ q, bgN k ≤ q → q < enN k → Wd'' q = Wd' q := fun q h1 h2 => by
          apply Nat.eq_of_testBit_eq
          intro b
          have no : ¬ ∃ c, c < 6 ^ n ∧ c / 6 ^ n = 0 ∧ takC w ns t n c = true ∧ q = bgN n + c / 64 ∧ b = c % 64 := by
            rintro ⟨c, a1, _, _, a4, _⟩
            have b5 := bg_ms n (by omega)
            rcases bg_dis n (by omega) k (by omega) with g2 | g2 | g2
            · exact g g2.symm
            · omega
            · omega
          have this : (Wd'' q).testBit b = true ↔ (Wd' q).testBit b = true := (hb q b).trans (or_iff_left no)
          cases e1 : (Wd'' q).testBit b <;> cases e2 : (Wd' q).testBit b <;> rw [e1, e2] at this <;> first | rfl | (exfalso; simp at this)
        rcases L' k hk with ⟨a1, a2⟩ | ⟨a1, a2⟩
        · exact .inl ⟨a1, fun q h1 h2 => by rw [same q h1 h2]; exact a2 q h1 h2⟩
        · exact .inr ⟨a1, fun q h1 h2 => by rw [same q h1 h2]; exact a2 q h1 h2⟩
    · rw [e1]
      exact ⟨fun g => absurd g (by decide), fun _ => fin _ _ _ _ _ _ _ _ _ _ R HW' L' hb⟩
  · have kn : n ≤ k := by
      rcases Nat.lt_or_ge k n with g2 | g2
      · exact absurd ((q_lt (by omega) (by omega)).2 g2) g
      · exact g2
    exact h _ _ _ _ _ _ _ _ _ _ (ofV_out kn) L
end
