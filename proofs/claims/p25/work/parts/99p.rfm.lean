section
variable {wh n0 m0 t0 n1 m1 t1 : Nat} {w0 w1 : Nat → Nat} {st mk tk pu go cl : Nat → Int32} {y : Sy}
theorem m_countBehind (hw : wh < 3) (hy : y = syM wh n0 w0 n1 w1) (hok : SyOk y) (M : MdOk n0 m0 t0 w0 n1 m1 t1 w1 st mk tk pu go cl) {wn : Nat} {xs : Nat → Nat} {wo : Nat → Int32} (WW : WM y wh wn xs wo) {n : Nat} {nd : Nat → Nd} {co si de : Nat → Int32} (WN' : WN y wh n nd co si de) (NE : Enum (NSt y) nd n) {bt : Nat → Int32} (BT : BTk y wn xs n nd bt)
    {L N k X : Nat} (hL : L < N) (hN : N ≤ 12) (hk : k < n) {wm : Nat → Int64} (hwm : ∀ l, l ≤ N → ∀ k, k < wn → wm (64 * l + k) = lN (wcn y l (xs k) % 1000000007)) {A : Nat → Int64} {K : (Nat → Int64) → Prop} (h : ∀ A', Acc 1664 (fun q => cbD y wn xs n nd L N k X q) A A' → K A') :
    wX12_countBehind (nI wh) (nI L) (nI N) (nI k) (lN (X % 1000000007)) (nI wn) (nI n) st pu go cl co si de wm bt A K := by
  obtain ⟨h1, h60, h0, hW, hi⟩ := id WW
  have n120 := WN'.1
  obtain ⟨wc, ws, wd, wt⟩ := WN'.2.1 k hk
  have bn := PS_b hok ⟨_, wt⟩
  have mP : ∀ {l : Nat} {K : Int32 → Prop}, 2 ≤ l → l < 4 → K (nI (ph wh (sP y l))) → wX12_plain (nI wh) (nI l) go K := fun h1 h2 h => by rw [hy] at h; exact m_plain hw M h1 h2 h
  have mF : ∀ {x z : Nat} {K : Int32 → Prop}, R2 y x → R2 y z → K (nI (ph wh (thn x z))) → wX12_follow (nI (ph wh x)) (nI (ph wh z)) K := fun hx hz h => by rw [hy] at hx hz; exact m_follow (n0 := n0) (w0 := w0) (n1 := n1) (w1 := w1) hw hx hz h
  have mI : ∀ {c z : Nat} {K : Int32 → Prop}, S2 y c → R2 y z → K (nI (ps wh (imc c z))) → wX12_image (nI (ps wh c)) (nI (ph wh z)) K := fun hc hz h => by rw [hy] at hc hz; exact m_image (n0 := n0) (w0 := w0) (n1 := n1) (w1 := w1) hw hc hz h
  have mO : ∀ {l c : Nat} {K : Int32 → Prop}, l < 2 → S2 y c → K (nI (ps wh (sA y l c))) → wX12_opened (nI wh) (nI l) (nI (ps wh c)) pu K := fun h1 hc h => by rw [hy] at hc h; exact m_opened hw M h1 hc h
  have mC : ∀ {l c : Nat} {K : Int32 → Prop}, 4 ≤ l → l < 6 → S2 y c → K (nI (ps wh (sA y l c))) → wX12_closedOff (nI wh) (nI l) (nI (ps wh c)) cl K := fun h1 h2 hc h => by rw [hy] at hc h; exact m_closedOff hw M h1 h2 hc h
  have mE : ∀ {K : Int32 → Prop}, K (nI (ph wh (sE y))) → wX12_itself (nI wh) st K := fun h => by rw [hy] at h; exact m_itself hw M h
  unfold wX12_countBehind
  rw [q_in (by omega), q_cl (by omega), wc, ws]
  refine ⟨by omega, fun x1 e1 => ⟨by omega, fun x2 e2 => ?_⟩⟩
  subst e1; subst e2
  unfold wX12_countBehind_L21
  intro P hP
  refine q_cnt0 (Q := fun i => ∀ B, Acc 1664 (fun q => sumN (fun i => whW 128 n nd (L + 1) (nst (nd k) (sP y (2 + i))) q * X) i) A B → P (nI (i + 2)) B) 2 ?_ ?_ A (Acc_r _ _)
  · intro B hB
    refine hP _ _ ⟨fun _ => ?_, fun g => absurd ((q_le (by omega) (by omega)).2 (Nat.le_refl 4)) g⟩
    unfold wX12_countBehind_L76
    intro R hR
    refine q_cnt0 (Q := fun l => ∀ C, Acc 1664 (fun q => sumN (fun l => sumN (fun o => sumN (fun v => whW 128 n nd (L + l + 2) (nst (nd k) (sB y (v / 2) (4 + v % 2) (xs o))) q * (X * wcn y l (xs o))) 4) wn) l) B C → R (nI l) C) (N - 1 - L) ?_ ?_ B (Acc_r _ _)
    · intro C hC
      refine hR _ _ ⟨fun _ => ?_, fun g => absurd ?_ g⟩
      rotate_left
      · rw [nI_add, show (2 : Int32) = nI 2 from rfl, nI_add]
        exact (q_lt (by omega) (by omega)).2 (by omega)
      unfold wX12_countBehind_L210
      intro S hS
      refine q_cnt0 (Q := fun l => ∀ D, Acc 1664 (fun q => sumN (fun l => whW 128 n nd (L + 1) ((sA y l (nd k).1.1, sE y), true) q * X + ind ((nd k).2 = false) * (whW 128 n nd (L + 1) ((sA y (4 + l) (nd k).1.1, sE y), false) q * X)) l) C D → S (nI l) D) 2 ?_ ?_ C (Acc_r _ _)
      · intro D hD
        exact hS _ _ ⟨fun _ => h D (Acc_t (Acc_t hB hC) hD), fun g => absurd ((q_le (by omega) (by omega)).2 (Nat.le_refl 2)) g⟩
      · intro l hl ihl D hD
        refine hS _ _ ⟨fun g => absurd ((q_le (a := 2) (by omega) (by omega)).1 g) (by omega), fun _ => ?_⟩
        refine mO hl bn.1 (mE ?_)
        rw [nI_1, show (1 : Int32) = nI (bI true) from rfl]
        refine m_addNode hw hy hok WN' NE hN (by omega) (t := ((sA y l (nd k).1.1, sE y), true)) (NS_open wt hl) (fun D1 h1 => ?_)
        rw [q_in (by omega), q_cl (by omega), wd]
        refine ⟨by omega, fun g => ?_, fun g => ?_⟩
        · have ed : (nd k).2 = false := bI_inj ((q_eq (b := 0) (by have := bI_lt (nd k).2; omega) (by omega)).1 g)
          have hc : NSt y ((sA y (4 + l) (nd k).1.1, sE y), false) := NS_close (by have h2 : NS y (nd k).1.1 (nd k).1.2 (nd k).2 := wt; rw [ed] at h2; exact h2) (by omega) (by omega)
          rw [show (4 : Int32) = nI 4 from rfl, nI_add]
          refine mC (by omega) (by omega) bn.1 (mE ?_)
          rw [show (0 : Int32) = nI (bI false) from rfl]
          refine m_addNode hw hy hok WN' NE hN (by omega) (t := ((sA y (4 + l) (nd k).1.1, sE y), false)) hc (fun D2 h2 x14 e14 => ?_)
          rw [e14, nI_add]
          refine ihl D2 (Acc_sum (F := fun l q => whW 128 n nd (L + 1) ((sA y l (nd k).1.1, sE y), true) q * X + ind ((nd k).2 = false) * (whW 128 n nd (L + 1) ((sA y (4 + l) (nd k).1.1, sE y), false) q * X)) hD (Acc_e (Acc_t h1 h2) (fun q _ => ?_)))
          show _ = _ + ind ((nd k).2 = false) * _
          rw [ind_t ed, Nat.one_mul]
        · have ed : ¬ (nd k).2 = false := fun e => g (by rw [e]; rfl)
          intro x10 e10
          rw [e10, show nI l + nI (bI true) = nI (l + 1) from by rw [nI_add]; rfl]
          refine ihl D1 (Acc_sum (F := fun l q => whW 128 n nd (L + 1) ((sA y l (nd k).1.1, sE y), true) q * X + ind ((nd k).2 = false) * (whW 128 n nd (L + 1) ((sA y (4 + l) (nd k).1.1, sE y), false) q * X)) hD (Acc_e h1 (fun q _ => ?_)))
          show _ = _ + ind ((nd k).2 = false) * _
          rw [ind_f ed, Nat.zero_mul]; rfl
    · intro l hl ihl C hC
      refine hR _ _ ?_
      rw [nI_add, show (2 : Int32) = nI 2 from rfl, nI_add]
      refine ⟨fun g => absurd ((q_lt (by omega) (by omega)).1 g) (by omega), fun _ => ?_⟩
      unfold wX12_countBehind_L89
      intro S hS
      refine q_cnt0 (Q := fun o => ∀ D, Acc 1664 (fun q => sumN (fun o => sumN (fun v => whW 128 n nd (L + l + 2) (nst (nd k) (sB y (v / 2) (4 + v % 2) (xs o))) q * (X * wcn y l (xs o))) 4) o) C D → S (nI o) D) wn ?_ ?_ C (Acc_r _ _)
      · intro D hD
        refine hS _ _ ⟨fun _ x16 e16 => ?_, fun g => absurd ((q_le (by omega) (by omega)).2 (Nat.le_refl wn)) g⟩
        rw [e16, nI_1]
        exact ihl D (Acc_sum (F := fun l q => sumN (fun o => sumN (fun v => whW 128 n nd (L + l + 2) (nst (nd k) (sB y (v / 2) (4 + v % 2) (xs o))) q * (X * wcn y l (xs o))) 4) wn) hC hD)
      · intro o ho iho D hD
        refine hS _ _ ⟨fun g => absurd ((q_le (by omega) (by omega)).1 g) (by omega), fun _ => ?_⟩
        rw [show (64 : Int32) = nI 64 from rfl, pk_mul, nI_add, q_in (by omega), q_cl (by omega), hwm l (by omega) o ho, lN_mul, q_modL (by have := res_mul (a := X) (b := wcn y l (xs o)); omega), ← Nat.mul_mod]
        refine ⟨by omega, fun x17 e17 E hE => ?_⟩
        subst e17
        have nxt : ∀ G, Acc 1664 (fun q => sumN (fun v => whW 128 n nd (L + l + 2) (nst (nd k) (sB y (v / 2) (4 + v % 2) (xs o))) q * (X * wcn y l (xs o))) 4) D G → ∀ j, E j G := fun G hG j => hE j G (fun x18 e18 => by
          rw [e18, nI_1]
          exact iho G (Acc_sum (F := fun o q => sumN (fun v => whW 128 n nd (L + l + 2) (nst (nd k) (sB y (v / 2) (4 + v % 2) (xs o))) q * (X * wcn y l (xs o))) 4) hD hG))
        unfold wX12_countBehind_L123
        intro T hT
        refine q_cnt0 (Q := fun v => ∀ G, Acc 1664 (fun q => sumN (fun v => whW 128 n nd (L + l + 2) (nst (nd k) (sB y (v / 2) (4 + v % 2) (xs o))) q * (X * wcn y l (xs o))) v) D G → T (nI v) G) 4 ?_ ?_ D (Acc_r _ _)
        · intro G hG
          exact hT _ _ ⟨fun _ => nxt G hG _, fun g => absurd ((q_le (by omega) (by omega)).2 (Nat.le_refl 4)) g⟩
        · intro v hv ihv G hG
          refine hT _ _ ⟨fun g => absurd ((q_le (a := 4) (by omega) (by omega)).1 g) (by omega), fun _ => ⟨fun g => ?_, fun g => ?_⟩⟩
          · have g := lg_res.1 g
            have z : ∀ k2 q, sumN (fun v => whW 128 n nd (L + l + 2) (nst (nd k) (sB y (v / 2) (4 + v % 2) (xs o))) q * (X * wcn y l (xs o))) k2 % 1000000007 = 0 := fun k2 q => sumN_m0 k2 (fun v _ => mul_m0 g)
            exact nxt G (Acc_m hG (fun q _ => by rw [z v q, z 4 q])) _
          · obtain ⟨j, hj, ej, e2⟩ := BT k hk (4 * o + v) (by omega)
            rw [show (4 : Int32) = nI 4 from rfl, show (240 : Int32) = nI 240 from rfl, pk_mul, pk_mul, nI_add, nI_add, q_in (by omega), q_cl (by omega), Nat.add_assoc, ej, show (128 : Int32) = nI 128 from rfl, nI_add, show (2 : Int32) = nI 2 from rfl, nI_add, pk_mul, nI_add]
            refine ⟨by omega, fun x21 e21 => ?_⟩
            subst e21
            rw [q_in (by omega), q_cl (by omega)]
            refine ⟨by omega, fun x22 e22 => ⟨by omega, fun g23 e23 x24 e24 => ?_⟩⟩
            rw [e24, nI_1, e23, e22]
            refine ihv _ (Acc_sum (F := fun v q => whW 128 n nd (L + l + 2) (nst (nd k) (sB y (v / 2) (4 + v % 2) (xs o))) q * (X * wcn y l (xs o))) hG (Acc_e (Acc_upd (M := X * wcn y l (xs o)) (by omega) (by omega) G) (fun q _ => ?_)))
            have ev : nd j = nst (nd k) (sB y (v / 2) (4 + v % 2) (xs o)) := by
              rw [e2, show (4 * o + v) % 4 / 2 = v / 2 from by omega, show (4 * o + v) % 2 = v % 2 from by omega, show (4 * o + v) / 4 = o from by omega]
            rw [whW_eq NE.2.1 hj ev]
  · intro i hi2 ih B hB
    refine hP _ _ ⟨fun g => absurd ((q_le (a := 4) (by omega) (by omega)).1 g) (by omega), fun _ => ?_⟩
    have hs : stpS y (WS y) (sP y (i + 2)) := by rcases (show i = 0 ∨ i = 1 by omega) with e | e <;> subst e <;> first | exact .inl rfl | exact .inr (.inl rfl)
    have rP := R2_P hok (i + 2)
    refine mP (by omega) (by omega) (mI bn.1 rP (mF bn.2 rP ?_))
    rw [q_in (by omega), q_cl (by omega), wd, nI_1]
    refine ⟨by omega, ?_⟩
    refine m_addNode hw hy hok WN' NE hN (by omega) (t := nst (nd k) (sP y (i + 2))) (NSt_st wt hs) (fun C hC x29 e29 => ?_)
    rw [e29, nI_1, show i + 2 + 1 = i + 1 + 2 from by omega]
    refine ih C (Acc_sum (F := fun i q => whW 128 n nd (L + 1) (nst (nd k) (sP y (2 + i))) q * X) hB (Acc_e hC (fun q _ => ?_)))
    rw [Nat.add_comm i 2]
end
