section
variable {wh n0 m0 t0 n1 m1 t1 : Nat} {w0 w1 : Nat → Nat} {st mk tk pu go cl : Nat → Int32} {y : Sy}
theorem m_countWholes (hw : wh < 3) (hy : y = syM wh n0 w0 n1 w1) (hok : SyOk y) (M : MdOk n0 m0 t0 w0 n1 m1 t1 w1 st mk tk pu go cl) {wn : Nat} {xs : Nat → Nat} {wo : Nat → Int32} (WW : WM y wh wn xs wo) (WE : Enum (WS y) xs wn) {N : Nat} (hN : N ≤ 12) {wm : Nat → Int64} {K : (Nat → Int64) → Prop}
    (h : ∀ wm', (∀ l, l ≤ N → ∀ k, k < wn → wm' (64 * l + k) = lN (wcn y l (xs k) % 1000000007)) → K wm') :
    wX12_countWholes (nI wh) (nI N) (nI wn) mk pu go cl wo wm K := by
  obtain ⟨h1, h60, h0, hW, hi⟩ := id WW
  have hF := FinS_WS WE
  have mF : ∀ {x z : Nat} {K : Int32 → Prop}, R2 y x → R2 y z → K (nI (ph wh (thn x z))) → wX12_follow (nI (ph wh x)) (nI (ph wh z)) K := fun hx hz h => by rw [hy] at hx hz; exact m_follow (n0 := n0) (w0 := w0) (n1 := n1) (w1 := w1) hw hx hz h
  have mP : ∀ {l : Nat} {K : Int32 → Prop}, 2 ≤ l → l < 4 → K (nI (ph wh (sP y l))) → wX12_plain (nI wh) (nI l) go K := fun h1 h2 h => by rw [hy] at h; exact m_plain hw M h1 h2 h
  unfold wX12_countWholes wX12_countWholes_L2
  intro P hP
  refine q_cnt0 (Q := fun k => ∀ A, (∀ q, q < k → A q = lN (0 % 1000000007)) → P (nI k) A) 832 ?_ ?_ wm (fun q hq => by omega)
  · intro A hA
    refine hP _ _ ⟨fun _ => ⟨(q_in (n := 0) (by omega)).2 (by omega), fun g2 e2 => ?_⟩, fun g => absurd ((q_le (by omega) (by omega)).2 (Nat.le_refl 832)) g⟩
    have g0 : ∀ q, q < 832 → g2 q = lN ((if q = 0 then 1 else 0) % 1000000007) := fun q hq => by
      rw [e2, q_apL]
      by_cases g : q = 0
      · rw [if_pos g]
        have : q = (0 : Int32).toNatClampNeg := by rw [g]; decide
        rw [if_pos this]; rfl
      · rw [if_neg g]
        have : ¬ q = (0 : Int32).toNatClampNeg := fun e => g (by rw [e]; decide)
        rw [if_neg this]; exact hA q hq
    unfold wX12_countWholes_L31
    intro R hR
    have key : ∀ d L A, N - L = d → L ≤ N → RLn y wn xs L A → R (nI L) A := by
      intro d
      induction d with
      | zero =>
        intro L A hd hL RA
        have eL : L = N := by omega
        subst eL
        refine hR _ _ ⟨fun g => absurd ((q_lt (by omega) (by omega)).1 g) (by omega), fun _ => ?_⟩
        -- the last length: nothing is added
        unfold wX12_countWholes_L39
        intro S hS
        refine q_cnt0 (Q := fun k => S (nI k) A) wn ?_ ?_
        · refine hS _ _ ⟨fun _ => ?_, fun g => absurd ((q_le (by omega) (by omega)).2 (Nat.le_refl wn)) g⟩
          unfold wX12_countBlocks
          rw [nI_1]
          intro E3 hE3
          have fin : E3 0 A := hE3 _ _ (fun x6 e6 => by
            rw [e6]
            exact hR _ _ ⟨fun _ => h A RA.1, fun g => absurd ((q_lt (by omega) (by omega)).2 (by omega)) g⟩)
          unfold wX12_countBlocks_L3
          intro P3 hP3
          exact hP3 _ _ ⟨fun _ => fin, fun _ => ⟨fun _ => fin, fun g => absurd ((q_lt (by omega) (by omega)).2 (by omega)) g⟩⟩
        · intro k hk ih
          refine hS _ _ ⟨fun g => absurd ((q_le (by omega) (by omega)).1 g) (by omega), fun _ => ?_⟩
          rw [show (64 : Int32) = nI 64 from rfl, pk_mul, nI_add, q_in (by omega), q_cl (by omega)]
          refine ⟨by omega, fun x7 e7 E hE => ?_⟩
          unfold wX12_countWholes_L65
          intro T hT
          have fin : ∀ i, E i A := fun i => hE i A (fun x8 e8 => by rw [e8, nI_1]; exact ih)
          exact hT _ _ ⟨fun _ => fin _, fun _ => ⟨fun _ => fin _, fun _ => ⟨fun _ => fin _, fun g => absurd ((q_le (by omega) (by omega)).2 (Nat.le_refl L)) g⟩⟩⟩
      | succ d ih =>
        intro L A hd hL RA
        refine hR _ _ ⟨fun g => absurd ((q_lt (by omega) (by omega)).1 g) (by omega), fun _ => ?_⟩
        let D : Nat → Nat → Nat → Nat := fun k i q => whW 64 wn xs (L + 1) (thn (xs k) (sP y (2 + i))) q * wcn y L (xs k)
        have off : ∀ k i l' k', l' < L + 1 → k' < 64 → D k i (64 * l' + k') = 0 := fun k i l' k' h1 h2 => by
          show whW 64 wn xs (L + 1) _ (64 * l' + k') * _ = 0
          rw [whW_off (by omega) h2 (by omega), Nat.zero_mul]
        unfold wX12_countWholes_L39
        intro S hS
        refine q_cnt0 (Q := fun k => ∀ B, Acc 832 (fun q => sumN (fun k => sumN (fun i => D k i q) 2) k) A B → S (nI k) B) wn ?_ ?_ A (Acc_r _ _)
        · intro B hB
          refine hS _ _ ⟨fun _ => ?_, fun g => absurd ((q_le (by omega) (by omega)).2 (Nat.le_refl wn)) g⟩
          have zB : ∀ l' k', l' < L + 1 → k' < 64 → sumN (fun k => sumN (fun i => D k i (64 * l' + k')) 2) wn = 0 := fun l' k' h1 h2 => sumN_0 wn (fun b _ => sumN_0 2 (fun c _ => off b c l' k' h1 h2))
          rw [nI_1]
          refine m_countBlocks hw hy hok M WW WE (by omega) hN (fun l hl k hk => Acc_0 hB (by omega) (zB l k (by omega) (by omega)) (RA.1 l hl k hk)) (fun C hC => ?_)
          intro x6 e6
          rw [e6]
          refine ih (L + 1) C (by omega) (by omega) ⟨fun l hl k hk => ?_, fun l k hl h13 hk => ?_⟩
          · by_cases e : l = L + 1
            · subst e
              have r0 := RA.2 (L + 1) k (by omega) (by omega) (by omega)
              refine Acc_all (Acc_t hB hC) (x := 0) (by omega) r0 ?_
              congr 1
              rw [Nat.zero_add, wcn_s hF, sumN_s, Nat.add_comm]
              congr 1
              · show sumN (fun l => sumN (fun o => sumN (fun v => sumN (fun k' => whW 64 wn xs (L + 1) (thn (xs k') (sB y (v / 2) (4 + v % 2) (xs o))) (64 * (L + 1) + k) * (wcn y (L - 1 - l) (xs k') * wcn y l (xs o))) wn) 4) wn) L = _
                rw [sumN_rev]
                refine sumN_congr L (fun l hl => ?_)
                rw [show L - 1 - (L - 1 - l) = l from by omega, sumS_E WE]
                have e1 : ∀ u, stf y (wcn y) (L + 1 - l) (fun s => ind (thn u s = xs k)) = sumN (fun v => sumN (fun o => ind (thn u (sB y (v / 2) (4 + v % 2) (xs o)) = xs k) * wcn y (L - 1 - l) (xs o)) wn) 4 := fun u => by
                  unfold stf
                  rw [if_neg (by omega), if_pos (by omega), Nat.zero_add]
                  refine sumN_congr 4 (fun v _ => ?_)
                  rw [sumS_E WE]
                  exact sumN_congr wn (fun o _ => by rw [show L + 1 - l - 2 = L - 1 - l from by omega])
                have e2 : ∀ i, wcn y l (xs i) * sumN (fun v => sumN (fun o => ind (thn (xs i) (sB y (v / 2) (4 + v % 2) (xs o)) = xs k) * wcn y (L - 1 - l) (xs o)) wn) 4 = sumN (fun v => sumN (fun o => whW 64 wn xs (L + 1) (thn (xs i) (sB y (v / 2) (4 + v % 2) (xs o))) (64 * (L + 1) + k) * (wcn y l (xs i) * wcn y (L - 1 - l) (xs o))) wn) 4 := fun i => by
                  rw [← sumN_mul]
                  refine sumN_congr 4 (fun v _ => ?_)
                  rw [← sumN_mul]
                  exact sumN_congr wn (fun o _ => by rw [whW_at hi (by omega) hk, Nat.mul_left_comm])
                have eR : sumN (fun i => wcn y l (xs i) * stf y (wcn y) (L + 1 - l) (fun s => ind (thn (xs i) s = xs k))) wn = sumN (fun i => sumN (fun v => sumN (fun o => whW 64 wn xs (L + 1) (thn (xs i) (sB y (v / 2) (4 + v % 2) (xs o))) (64 * (L + 1) + k) * (wcn y l (xs i) * wcn y (L - 1 - l) (xs o))) wn) 4) wn := sumN_congr wn (fun i _ => by rw [e1 (xs i)]; exact e2 i)
                rw [eR, sumN_comm (fun i v => sumN (fun o => whW 64 wn xs (L + 1) (thn (xs i) (sB y (v / 2) (4 + v % 2) (xs o))) (64 * (L + 1) + k) * (wcn y l (xs i) * wcn y (L - 1 - l) (xs o))) wn) 4 wn, sumN_comm (fun o v => sumN (fun k' => whW 64 wn xs (L + 1) (thn (xs k') (sB y (v / 2) (4 + v % 2) (xs o))) (64 * (L + 1) + k) * (wcn y l (xs k') * wcn y (L - 1 - l) (xs o))) wn) 4 wn]
                refine sumN_congr 4 (fun v _ => ?_)
                rw [sumN_comm]
              · show sumN (fun k' => sumN (fun i => whW 64 wn xs (L + 1) (thn (xs k') (sP y (2 + i))) (64 * (L + 1) + k) * wcn y L (xs k')) 2) wn = _
                rw [sumS_E WE]
                refine sumN_congr wn (fun k' _ => ?_)
                unfold stf
                rw [if_pos (by omega), if_neg (by omega)]
                show _ = wcn y L (xs k') * sumN (fun i => ind (thn (xs k') (sP y (2 + i)) = xs k)) 2
                rw [← sumN_mul]
                exact sumN_congr 2 (fun i _ => by rw [whW_at hi (by omega) hk, Nat.mul_comm])
            · have z1 := zB l k (by omega) (by omega)
              have z2 : sumN (fun l2 => sumN (fun o => sumN (fun v => sumN (fun k' => whW 64 wn xs (L + 1) (thn (xs k') (sB y (v / 2) (4 + v % 2) (xs o))) (64 * l + k) * (wcn y (L - 1 - l2) (xs k') * wcn y l2 (xs o))) wn) 4) wn) L = 0 := sumN_0 L (fun a _ => sumN_0 wn (fun b _ => sumN_0 4 (fun c _ => sumN_0 wn (fun d _ => by rw [whW_off (by omega) (by omega) e, Nat.zero_mul]))))
              exact Acc_0 hC (by omega) z2 (Acc_0 hB (by omega) z1 (RA.1 l (by omega) k hk))
          · have z1 : sumN (fun k2 => sumN (fun i => D k2 i (64 * l + k)) 2) wn = 0 := sumN_0 wn (fun b _ => sumN_0 2 (fun c _ => by
              show whW 64 wn xs (L + 1) _ (64 * l + k) * _ = 0
              rw [whW_off (by omega) hk (by omega), Nat.zero_mul]))
            have z2 : sumN (fun l2 => sumN (fun o => sumN (fun v => sumN (fun k' => whW 64 wn xs (L + 1) (thn (xs k') (sB y (v / 2) (4 + v % 2) (xs o))) (64 * l + k) * (wcn y (L - 1 - l2) (xs k') * wcn y l2 (xs o))) wn) 4) wn) L = 0 := sumN_0 L (fun a _ => sumN_0 wn (fun b _ => sumN_0 4 (fun c _ => sumN_0 wn (fun d _ => by rw [whW_off (by omega) hk (by omega), Nat.zero_mul]))))
            exact Acc_0 hC (by omega) z2 (Acc_0 hB (by omega) z1 (RA.2 l k (by omega) h13 hk))
        · intro k hk ihk B hB
          refine hS _ _ ⟨fun g => absurd ((q_le (by omega) (by omega)).1 g) (by omega), fun _ => ?_⟩
          have rB : B (64 * L + k) = lN (wcn y L (xs k) % 1000000007) := Acc_0 hB (by omega) (sumN_0 k (fun b _ => sumN_0 2 (fun c _ => off b c L k (by omega) (by omega)))) (RA.1 L (Nat.le_refl L) k hk)
          rw [show (64 : Int32) = nI 64 from rfl, pk_mul, nI_add, q_in (by omega), q_cl (by omega), rB]
          refine ⟨by omega, fun x7 e7 E hE => ?_⟩
          subst e7
          have nxt : ∀ C, Acc 832 (fun q => sumN (fun i => D k i q) 2) B C → ∀ j, E j C := fun C hC j => hE j C (fun x8 e8 => by
            rw [e8, nI_1]
            exact ihk C (Acc_sum (F := fun k q => sumN (fun i => D k i q) 2) hB hC))
          unfold wX12_countWholes_L65
          intro T hT
          refine q_cnt0 (Q := fun i => ∀ C, Acc 832 (fun q => sumN (fun i => D k i q) i) B C → T (nI (i + 2)) C) 2 ?_ ?_ B (Acc_r _ _)
          · intro C hC
            exact hT _ _ ⟨fun _ => nxt C hC _, fun g => absurd ((q_le (by omega) (by omega)).2 (Nat.le_refl 4)) g⟩
          · intro i hi2 ihi C hC
            refine hT _ _ ⟨fun g => absurd ((q_le (a := 4) (by omega) (by omega)).1 g) (by omega), fun _ => ⟨fun g => ?_, fun g => ⟨fun g2 => absurd ((q_le (by omega) (by omega)).1 g2) (by omega), fun _ => ?_⟩⟩⟩
            · have g := lg_res.1 g
              have z : ∀ k2 q, sumN (fun i => D k i q) k2 % 1000000007 = 0 := fun k2 q => sumN_m0 k2 (fun i _ => mul_m0 g)
              exact nxt C (Acc_m hC (fun q _ => by rw [z i q, z 2 q])) _
            · rw [q_in (by omega), q_cl (by omega), (hW k hk).1]
              refine ⟨by omega, mP (by omega) (by omega) (mF (WS_R2 hok (hW k hk).2) (R2_P hok _) ?_)⟩
              have hs : WS y (thn (xs k) (sP y (i + 2))) := WS_stp (hW k hk).2 (by rcases (show i = 0 ∨ i = 1 by omega) with e | e <;> subst e <;> first | exact .inl rfl | exact .inr (.inl rfl))
              obtain ⟨j, hj, ej⟩ := WE.2.2 _ hs
              refine m_wholeOf hw hy WW hok hj ej ?_
              intro x15 e15
              rw [nI_1, show (64 : Int32) = nI 64 from rfl, pk_mul, nI_add] at e15
              subst e15
              rw [q_in (by omega), q_cl (by omega)]
              refine ⟨by omega, fun x16 e16 => ⟨by omega, fun g17 e17 x18 e18 => ?_⟩⟩
              rw [e18, nI_1, e17, e16, show i + 2 + 1 = i + 1 + 2 from by omega]
              refine ihi _ (Acc_sum (F := fun i q => D k i q) hC (Acc_e (Acc_upd (M := wcn y L (xs k)) (by omega) (by omega) C) (fun q _ => ?_)))
              show ind (q = 64 * (L + 1) + j) * _ = whW 64 wn xs (L + 1) (thn (xs k) (sP y (2 + i))) q * _
              rw [whW_eq hi hj ej, Nat.add_comm 2 i]
    refine key N 0 g2 rfl (by omega) ⟨fun l hl k hk => ?_, fun l k hl h13 hk => ?_⟩
    · have l0 : l = 0 := by omega
      subst l0
      rw [g0 _ (by omega), wcn_0]
      congr 2
      by_cases g : k = 0
      · rw [if_pos (by omega), if_pos (by rw [g]; exact h0)]
      · rw [if_neg (by omega), if_neg (fun g3 => g (hi k 0 hk (by omega) (by rw [g3, h0])))]
    · rw [g0 _ (by omega), if_neg (by omega)]
  · intro k hk ih A hA
    refine hP _ _ ⟨fun g => absurd ((q_le (a := 832) (by omega) (by omega)).1 g) (by omega), fun _ => ?_⟩
    rw [q_in (by omega), q_cl (by omega)]
    refine ⟨by omega, fun g19 e19 x20 e20 => ?_⟩
    rw [e20, nI_1, e19]
    refine ih _ (fun q hq => ?_)
    rw [q_apL]
    by_cases g : q = k
    · rw [if_pos g]; rfl
    · rw [if_neg g]; exact hA q (by omega)
end
