theorem sumN_m0 {F : Nat → Nat} : ∀ n, (∀ i, i < n → F i % 1000000007 = 0) → sumN F n % 1000000007 = 0
  | 0, _ => rfl
  | n + 1, h => by
    have h1 := sumN_m0 n (fun i hi => h i (by omega))
    have h2 := h n (by omega)
    rw [sumN_s]; omega
theorem sumN_mc {F G : Nat → Nat} : ∀ n, (∀ i, i < n → F i % 1000000007 = G i % 1000000007) → sumN F n % 1000000007 = sumN G n % 1000000007
  | 0, _ => rfl
  | n + 1, h => by
    have h1 := sumN_mc n (fun i hi => h i (by omega))
    have h2 := h n (by omega)
    rw [sumN_s, sumN_s]; omega
theorem mul_m0 {a b : Nat} (h : b % 1000000007 = 0) : a * b % 1000000007 = 0 := by rw [Nat.mul_mod, h, Nat.mul_zero]
theorem mul_m0' {a b : Nat} (h : a % 1000000007 = 0) : a * b % 1000000007 = 0 := by rw [Nat.mul_mod, h, Nat.zero_mul]
theorem lg_res {R : Nat} : lg_cmp (lN (R % 1000000007)) (0 : Int64) = 0 ↔ R % 1000000007 = 0 := by
  rw [q_lg, show (0 : Int64) = lN 0 from rfl, lN_inj (by omega) (by omega)]
section
variable {y : Sy} {sz st : Nat} {pr wo : Nat → Nat} {pa so wa nx ar pl sl : Nat → Int32}
theorem q_stepOfPlain (H : WhOk y sz st pr wo pa so wa nx ar pl sl) {l : Nat} (h2 : 2 ≤ l) (h4 : l < 4) {K : Int32 → Prop} (h : ∀ j, j < st → pr (wo j) = sP y l → K (nI j)) : wX10_stepOfPlain (nI l) pl K := by
  obtain ⟨_, _, _, _, _, hP⟩ := H
  obtain ⟨j, hj, ej, e2⟩ := hP (l - 2) (by omega)
  unfold wX10_stepOfPlain
  refine q_isPlain (by omega) ?_
  rw [if_pos ⟨h2, h4⟩, show (2 : Int32) = nI 2 from rfl, q_subN h2, q_in (by omega), q_cl (by omega), ej]
  exact ⟨fun g => absurd g (by decide), fun _ => ⟨by omega, h j hj (by rw [e2, show 2 + (l - 2) = l from by omega])⟩⟩
theorem stp_inj (H : WhOk y sz st pr wo pa so wa nx ar pl sl) : ∀ i j, i < st → j < st → pr (wo i) = pr (wo j) → i = j := (WhOk_steps H).2.1
theorem q_countSteps (H : WhOk y sz st pr wo pa so wa nx ar pl sl) {n : Nat} (h1 : 1 ≤ n) (hn : n < 13) {wh sp : Nat → Int64} (hw : ∀ i, i < sz → 2 ≤ n → wh ((n - 2) * 60 + i) = lN (wcn y (n - 2) (pr i) % 1000000007)) (hs : ∀ s, s < st → sp (n * 60 + s) = lN 0) {K : (Nat → Int64) → Prop}
    (h : ∀ sp', (∀ s, s < st → sp' (n * 60 + s) = lN (scn y n (pr (wo s)) % 1000000007)) → (∀ l k, l < 13 → l ≠ n → k < 60 → ∀ x, sp (l * 60 + k) = lN (x % 1000000007) → sp' (l * 60 + k) = lN (x % 1000000007)) → K sp') : wX0_countSteps (nI n) wh sp (nI sz) ar pl K := by
  obtain ⟨hW, _⟩ := id H
  have z60 := hW.1
  have s60 := WI_st hW
  have hE := WhOk_Enum H
  have hi := stp_inj H
  let D : Nat → Nat := fun q => (if n = 1 then sumN (fun i => whQ st (fun s => pr (wo s)) n (sP y (2 + i)) q) 2 else 0) + (if 2 ≤ n then sumN (fun i => sumN (fun v => whQ st (fun s => pr (wo s)) n (sB y (v / 2) (4 + v % 2) (pr i)) q * wcn y (n - 2) (pr i)) 4) sz else 0)
  have fin : ∀ sp', Acc 780 D sp sp' → K sp' := by
    intro sp' hA
    refine h sp' (fun s hs' => ?_) (fun l k hl hne hk x hx => Acc_0 hA (by omega) ?_ hx)
    · rw [hA (n * 60 + s) 0 (by omega) (hs s hs'), Nat.zero_add]
      congr 2
      show (if n = 1 then _ else 0) + (if 2 ≤ n then _ else 0) = _
      unfold scn stf
      congr 1
      · split
        · exact sumN_congr 2 (fun i _ => whQ_at hi (by omega) hs')
        · rfl
      · split
        · rw [sumN_comm]
          refine sumN_congr 4 (fun v _ => ?_)
          rw [sumS_E hE]
          exact sumN_congr sz (fun i _ => by rw [whQ_at hi (by omega) hs'])
        · rfl
    · show (if n = 1 then _ else 0) + (if 2 ≤ n then _ else 0) = 0
      have e1 : sumN (fun i => whQ st (fun s => pr (wo s)) n (sP y (2 + i)) (l * 60 + k)) 2 = 0 := sumN_0 2 (fun i _ => whQ_off (by omega) hk hne)
      have e2 : sumN (fun i => sumN (fun v => whQ st (fun s => pr (wo s)) n (sB y (v / 2) (4 + v % 2) (pr i)) (l * 60 + k) * wcn y (n - 2) (pr i)) 4) sz = 0 := sumN_0 sz (fun i _ => sumN_0 4 (fun v _ => by rw [whQ_off (by omega) hk hne, Nat.zero_mul]))
      rw [e1, e2]; simp
  unfold wX0_countSteps
  intro x1 e1
  rw [show (60 : Int32) = nI 60 from rfl, pk_mul] at e1
  subst e1
  intro J hJ
  refine ⟨fun g => ?_, fun g => hJ _ ?_⟩
  · have en : n = 1 := (q_eq (b := 1) (by omega) (by omega)).1 g
    have jJ : ∀ sp', K sp' → J sp' := fun sp' hk => hJ _ (fun E hE2 => by
      unfold wX0_countSteps_L43 wX10_size
      intro P hP
      have e := hE2 0 sp' hk
      exact hP _ _ ⟨fun _ => e, fun _ => ⟨fun _ => e, fun g2 => absurd ((q_lt (b := 2) (by omega) (by omega)).2 (show n < 2 by omega)) g2⟩⟩)
    refine q_stepOfPlain H (l := 2) (by omega) (by omega) (fun j hj ej => ?_)
    rw [nI_add]
    refine q_addP (m := 1) (M := 1) (by omega) (by omega) (by omega) rfl (fun A1 h1 => ?_)
    refine q_stepOfPlain H (l := 3) (by omega) (by omega) (fun j2 hj2 ej2 => ?_)
    rw [nI_add]
    refine q_addP (m := 1) (M := 1) (by omega) (by omega) (by omega) rfl (fun A2 h2 => ?_)
    refine jJ _ (fin _ (Acc_e (Acc_t h1 h2) (fun q _ => ?_)))
    show _ = (if n = 1 then _ else 0) + (if 2 ≤ n then _ else 0)
    rw [if_pos en, if_neg (by omega), Nat.mul_one, Nat.mul_one, whQ_eq hi hj ej, whQ_eq hi hj2 ej2]
    show _ = 0 + whQ st (fun s => pr (wo s)) n (sP y (2 + 0)) q + whQ st (fun s => pr (wo s)) n (sP y (2 + 1)) q + 0
    rw [Nat.zero_add, Nat.add_zero]
  · have n2 : 2 ≤ n := by
      rcases Nat.lt_or_ge n 2 with g2 | g2
      · exact absurd (show nI n = 1 by rw [show n = 1 from by omega]; rfl) g
      · exact g2
    intro E hE2
    unfold wX0_countSteps_L43 wX10_size
    intro P hP
    refine q_cnt0 (Q := fun i => ∀ A, Acc 780 (fun q => sumN (fun i => sumN (fun v => whQ st (fun s => pr (wo s)) n (sB y (v / 2) (4 + v % 2) (pr i)) q * wcn y (n - 2) (pr i)) 4) i) sp A → P (nI i) A) sz ?_ ?_ sp (Acc_r _ _)
    · intro A hA
      refine hP _ _ ⟨fun _ => hE2 _ _ (fin _ (Acc_e hA (fun q _ => ?_))), fun g => absurd ((q_le (by omega) (by omega)).2 (Nat.le_refl sz)) g⟩
      show _ = (if n = 1 then _ else 0) + (if 2 ≤ n then _ else 0)
      rw [if_neg (by omega), if_pos n2, Nat.zero_add]
    · intro i hi' ih A hA
      refine hP _ _ ⟨fun g => absurd ((q_le (by omega) (by omega)).1 g) (by omega), fun _ => ⟨fun g => absurd ((q_lt (b := 2) (by omega) (by omega)).1 g) (by omega), fun _ => ?_⟩⟩
      unfold wX0_countSteps_L60
      intro R hR
      refine q_cnt0 (Q := fun v => ∀ B, Acc 780 (fun q => sumN (fun v => whQ st (fun s => pr (wo s)) n (sB y (v / 2) (4 + v % 2) (pr i)) q * wcn y (n - 2) (pr i)) v) A B → R (nI v) B) 4 ?_ ?_ A (Acc_r _ _)
      · intro B hB
        refine hR _ _ ⟨fun _ x6 e6 => ?_, fun g => absurd ((q_le (by omega) (by omega)).2 (Nat.le_refl 4)) g⟩
        rw [e6, nI_1]
        exact ih B (Acc_sum (F := fun i q => sumN (fun v => whQ st (fun s => pr (wo s)) n (sB y (v / 2) (4 + v % 2) (pr i)) q * wcn y (n - 2) (pr i)) 4) hA hB)
      · intro v hv ihv B hB
        refine hR _ _ ⟨fun g => absurd ((q_le (a := 4) (by omega) (by omega)).1 g) (by omega), fun _ => ?_⟩
        refine q_aroundW H hi' hv (fun j hj ej => ?_)
        rw [show (120 : Int32) = nI 120 from rfl, q_subN (by omega), nI_add, nI_add, show n * 60 - 120 + i = (n - 2) * 60 + i from by omega, q_in (by omega), q_cl (by omega), hw i hi' n2]
        refine ⟨by omega, q_addP (M := wcn y (n - 2) (pr i)) (by omega) (by omega) (by omega) (by omega) (fun C hC x9 e9 => ?_)⟩
        rw [e9, nI_1]
        refine ihv C (Acc_sum (F := fun v q => whQ st (fun s => pr (wo s)) n (sB y (v / 2) (4 + v % 2) (pr i)) q * wcn y (n - 2) (pr i)) hB (Acc_e hC (fun q _ => ?_)))
        rw [whQ_eq hi hj ej]
theorem q_addWholes (H : WhOk y sz st pr wo pa so wa nx ar pl sl) {a b : Nat} (hb : 1 ≤ b) (hn : a + b < 13) {wh sp : Nat → Int64} {W S : Nat → Nat} (hw : ∀ i, i < sz → wh (a * 60 + i) = lN (W (pr i) % 1000000007)) (hs : ∀ s, s < st → sp (b * 60 + s) = lN (S (pr (wo s)) % 1000000007)) {K : (Nat → Int64) → Prop}
    (h : ∀ wh', Acc 780 (fun q => sumN (fun i => sumN (fun s => whQ sz pr (a + b) (thn (pr i) (pr (wo s))) q * (W (pr i) * S (pr (wo s)))) st) sz) wh wh' → K wh') : wX0_addWholes (nI a) (nI b) wh sp (nI sz) (nI st) nx K := by
  obtain ⟨hW, _⟩ := id H
  have z60 := hW.1
  have s60 := WI_st hW
  have hi := hW.2.2.1
  unfold wX0_addWholes
  intro x1 e1
  rw [nI_add, show (60 : Int32) = nI 60 from rfl, pk_mul] at e1
  subst e1
  unfold wX0_addWholes_L11 wX10_size
  intro P hP
  refine q_cnt0 (Q := fun i => ∀ A, Acc 780 (fun q => sumN (fun i => sumN (fun s => whQ sz pr (a + b) (thn (pr i) (pr (wo s))) q * (W (pr i) * S (pr (wo s)))) st) i) wh A → P (nI i) A) sz ?_ ?_ wh (Acc_r _ _)
  · intro A hA
    exact hP _ _ ⟨fun _ => h A hA, fun g => absurd ((q_le (by omega) (by omega)).2 (Nat.le_refl sz)) g⟩
  · intro i hi' ih A hA
    refine hP _ _ ⟨fun g => absurd ((q_le (by omega) (by omega)).1 g) (by omega), fun _ => ?_⟩
    have rd : A (a * 60 + i) = lN (W (pr i) % 1000000007) := Acc_0 hA (by omega) (sumN_0 i (fun j _ => sumN_0 st (fun s _ => by rw [whQ_off z60 (by omega) (by omega), Nat.zero_mul]))) (hw i hi')
    rw [show (60 : Int32) = nI 60 from rfl, pk_mul, nI_add, q_in (by omega), q_cl (by omega)]
    refine ⟨by omega, fun x4 e4 E hE2 => ?_⟩
    rw [rd] at e4
    subst e4
    have nxt : ∀ B, Acc 780 (fun q => sumN (fun s => whQ sz pr (a + b) (thn (pr i) (pr (wo s))) q * (W (pr i) * S (pr (wo s)))) st) A B → ∀ k, E k B := fun B hB k => hE2 k B (fun x5 e5 => by
      rw [e5, nI_1]
      exact ih B (Acc_sum (F := fun i q => sumN (fun s => whQ sz pr (a + b) (thn (pr i) (pr (wo s))) q * (W (pr i) * S (pr (wo s)))) st) hA hB))
    unfold wX0_addWholes_L37 wX10_steps
    intro R hR
    refine q_cnt0 (Q := fun s => ∀ B, Acc 780 (fun q => sumN (fun s => whQ sz pr (a + b) (thn (pr i) (pr (wo s))) q * (W (pr i) * S (pr (wo s)))) s) A B → R (nI s) B) st ?_ ?_ A (Acc_r _ _)
    · intro B hB
      exact hR _ _ ⟨fun _ => nxt B hB _, fun g => absurd ((q_le (by omega) (by omega)).2 (Nat.le_refl st)) g⟩
    · intro s hs' ihs B hB
      refine hR _ _ ⟨fun g => absurd ((q_le (by omega) (by omega)).1 g) (by omega), fun _ => ⟨fun g => ?_, fun g => ?_⟩⟩
      · have g := lg_res.1 g
        have z : ∀ k q, sumN (fun s => whQ sz pr (a + b) (thn (pr i) (pr (wo s))) q * (W (pr i) * S (pr (wo s)))) k % 1000000007 = 0 := fun k q => sumN_m0 k (fun s _ => mul_m0 (mul_m0' g))
        exact nxt B (Acc_m hB (fun q _ => by rw [z s q, z st q])) _
      · rw [show (60 : Int32) = nI 60 from rfl, pk_mul, nI_add, q_in (by omega), q_cl (by omega), hs s hs']
        refine ⟨by omega, fun x9 e9 => ?_⟩
        subst e9
        refine ⟨fun g2 x11 e11 => ?_, fun g2 => ?_⟩
        · have g2 := lg_res.1 g2
          rw [e11, nI_1]
          refine ihs B (Acc_sum (F := fun s q => whQ sz pr (a + b) (thn (pr i) (pr (wo s))) q * (W (pr i) * S (pr (wo s)))) hB (Acc_m (Acc_r _ _) (fun q _ => ?_)))
          rw [mul_m0 (mul_m0 g2)]
        · refine q_afterW H hi' hs' (fun k hk ek => ?_)
          rw [nI_add, lN_mul]
          refine q_addP (M := W (pr i) * S (pr (wo s))) (by omega) (by omega) res_mul (Nat.mul_mod _ _ _).symm (fun C hC x14 e14 => ?_)
          rw [e14, nI_1]
          refine ihs C (Acc_sum (F := fun s q => whQ sz pr (a + b) (thn (pr i) (pr (wo s))) q * (W (pr i) * S (pr (wo s)))) hB (Acc_e hC (fun q _ => ?_)))
          rw [whQ_eq hi hk ek]
theorem ind_off {w n l k j : Nat} (hk : k < w) (hj : j < w) (hl : l ≠ n) : ind (l * w + k = n * w + j) = 0 := ind_f (fun e => hl (by
  have e1 : (l * w + k) / w = (n * w + j) / w := by rw [e]
  rw [Nat.mul_comm l w, Nat.mul_comm n w, Nat.mul_add_div (by omega), Nat.mul_add_div (by omega), Nat.div_eq_of_lt hk, Nat.div_eq_of_lt hj] at e1
  omega))
theorem q_addCodes (H : WhOk y sz st pr wo pa so wa nx ar pl sl) (hy : SyOk y) (h1 : y.2 = (0, fun _ => 0)) {fn : Nat} {im : Nat → Int32} {spr : Nat → Int64} (F : FI 8 sz pr fn im spr) {a b : Nat} (hb : 1 ≤ b) (hn : a + b < 13) {A0 sp : Nat → Int64} {g S : Nat → Nat} (hg : ∀ c, c < 8 → A0 (a * 8 + c) = lN (g c % 1000000007)) (hfl : ∀ c, c < 8 → g c % 1000000007 ≠ 0 → fn.testBit c = true) (hs : ∀ s, s < st → sp (b * 60 + s) = lN (S (pr (wo s)) % 1000000007)) {K : (Nat → Int64) → Prop}
    (h : ∀ A', Acc 104 (fun q => sumN (fun c => sumN (fun s => ind (q = (a + b) * 8 + imc c (pr (wo s))) * (g c * S (pr (wo s)))) st) 8) A0 A' → K A') : wX0_addCodes (nI a) (nI b) (nI 8) (nI st) wa im sp A0 8 104 K := by
  obtain ⟨hW, _⟩ := id H
  have z60 := hW.1
  have s60 := WI_st hW
  have hE := WhOk_Enum H
  have i8 : ∀ c, c < 8 → ∀ s, s < st → imc c (pr (wo s)) < 8 := fun c hc s hs => by
    rw [imc_one hc (R2_1 (WS_R2 hy (hE.1 _ (hW.2.2.2.2.1 s hs).2.1)) h1)]
    exact img_lt _ _
  unfold wX0_addCodes wX4_wholes
  intro x2 e2
  rw [nI_add, pk_mul] at e2
  subst e2
  unfold wX0_addCodes_L22
  intro P hP
  refine q_cnt0 (Q := fun c => ∀ A, Acc 104 (fun q => sumN (fun c => sumN (fun s => ind (q = (a + b) * 8 + imc c (pr (wo s))) * (g c * S (pr (wo s)))) st) c) A0 A → P (nI c) A) 8 ?_ ?_ A0 (Acc_r _ _)
  · intro A hA
    exact hP _ _ ⟨fun _ => h A hA, fun g => absurd ((q_le (by omega) (by omega)).2 (Nat.le_refl 8)) g⟩
  · intro c hc ih A hA
    refine hP _ _ ⟨fun g => absurd ((q_le (by omega) (by omega)).1 g) (by omega), fun _ => ?_⟩
    have rd : A (a * 8 + c) = lN (g c % 1000000007) := Acc_0 hA (by omega) (sumN_0 c (fun j hj => sumN_0 st (fun s hs => by rw [ind_off hc (i8 j (by omega) s hs) (by omega), Nat.zero_mul]))) (hg c hc)
    rw [pk_mul, nI_add, q_in (by omega), q_cl (by omega)]
    refine ⟨by omega, fun x4 e4 E hE2 => ?_⟩
    rw [rd] at e4
    subst e4
    have nxt : ∀ B, Acc 104 (fun q => sumN (fun s => ind (q = (a + b) * 8 + imc c (pr (wo s))) * (g c * S (pr (wo s)))) st) A B → ∀ k, E k B := fun B hB k => hE2 k B (fun x5 e5 => by
      rw [e5, nI_1]
      exact ih B (Acc_sum (F := fun c q => sumN (fun s => ind (q = (a + b) * 8 + imc c (pr (wo s))) * (g c * S (pr (wo s)))) st) hA hB))
    unfold wX0_addCodes_L47 wX10_steps
    intro R hR
    refine q_cnt0 (Q := fun s => ∀ B, Acc 104 (fun q => sumN (fun s => ind (q = (a + b) * 8 + imc c (pr (wo s))) * (g c * S (pr (wo s)))) s) A B → R (nI s) B) st ?_ ?_ A (Acc_r _ _)
    · intro B hB
      exact hR _ _ ⟨fun _ => nxt B hB _, fun g => absurd ((q_le (by omega) (by omega)).2 (Nat.le_refl st)) g⟩
    · intro s hs' ihs B hB
      refine hR _ _ ⟨fun g => absurd ((q_le (by omega) (by omega)).1 g) (by omega), fun _ => ⟨fun g0 => ?_, fun g0 => ?_⟩⟩
      · have g0 := lg_res.1 g0
        have z : ∀ k q, sumN (fun s => ind (q = (a + b) * 8 + imc c (pr (wo s))) * (g c * S (pr (wo s)))) k % 1000000007 = 0 := fun k q => sumN_m0 k (fun s _ => mul_m0 (mul_m0' g0))
        exact nxt B (Acc_m hB (fun q _ => by rw [z s q, z st q])) _
      · have g0 : g c % 1000000007 ≠ 0 := fun e => g0 (lg_res.2 e)
        rw [show (60 : Int32) = nI 60 from rfl, pk_mul, nI_add, q_in (by omega), q_cl (by omega), hs s hs']
        refine ⟨by omega, fun x9 e9 => ?_⟩
        subst e9
        refine ⟨fun g2 x11 e11 => ?_, fun g2 => ?_⟩
        · have g2 := lg_res.1 g2
          rw [e11, nI_1]
          refine ihs B (Acc_sum (F := fun s q => ind (q = (a + b) * 8 + imc c (pr (wo s))) * (g c * S (pr (wo s)))) hB (Acc_m (Acc_r _ _) (fun q _ => ?_)))
          rw [mul_m0 (mul_m0 g2)]
        · unfold wX10_wholeOfStep
          rw [q_in (by omega), q_cl (by omega), (hW.2.2.2.2.1 s hs').1]
          refine ⟨fun g3 => absurd g3 (nI_pos (by omega)), fun _ => ⟨fun g3 => absurd ((q_le (by omega) (by omega)).1 g3) (by omega), fun _ => ⟨by omega, ?_⟩⟩⟩
          refine q_imageP (by omega) z60 F hc (hfl c hc g0) (hW.2.2.2.2.1 s hs').2.1 ?_
          rw [nI_add, lN_mul]
          have l8 := i8 c hc s hs'
          refine q_addP (M := g c * S (pr (wo s))) (by omega) (by omega) res_mul (Nat.mul_mod _ _ _).symm (fun C hC x14 e14 => ?_)
          rw [e14, nI_1]
          exact ihs C (Acc_sum (F := fun s q => ind (q = (a + b) * 8 + imc c (pr (wo s))) * (g c * S (pr (wo s)))) hB hC)
end
