theorem sumN_rev (f : Nat → Nat) : ∀ n, sumN f n = sumN (fun t => f (n - 1 - t)) n
  | 0 => rfl
  | n + 1 => by
    have e : ∀ m, sumN f (m + 1) = f 0 + sumN (fun i => f (i + 1)) m := fun m => by
      induction m with
      | zero => show 0 + f 0 = f 0 + 0; omega
      | succ m ih => rw [sumN_s, ih, sumN_s]; omega
    have h2 := sumN_rev (fun i => f (i + 1)) n
    rw [e, h2, sumN_s, show n + 1 - 1 - n = 0 from by omega, Nat.add_comm]
    congr 1
    exact sumN_congr n (fun t ht => by rw [show n - 1 - t + 1 = n + 1 - 1 - t from by omega])
section
variable {n m t : Nat} {w : Nat → Nat} {sz st : Nat} {pr wo : Nat → Nat} {pa so wa nx ar pl sl : Nat → Int32}
theorem q_addHalf (W : WfR n m t w) {k : Nat} (hk : k < 12) {gr ab : Nat → Int64} {g a : Nat → Nat} (hg : ∀ c, c < 8 → gr (k * 8 + c) = lN (g c % 1000000007)) (ha : ∀ c, c < 8 → ab (k * 8 + c) = lN (a c % 1000000007)) (hS : ∀ c, c < 8 → ¬ S2 (y1 n w) c → g c = 0 ∧ a c = 0) {K : (Nat → Int64) → (Nat → Int64) → Prop}
    (h : ∀ gr' ab', Acc 104 (fun q => sumN (fun c => sumN (fun i => ind (q = (k + 1) * 8 + sA (y1 n w) (4 + i) c) * g c) 2) 8) gr gr' → Acc 104 (fun q => sumN (fun c => sumN (fun i => ind (q = (k + 1) * 8 + sA (y1 n w) (0 + i) c) * (g c + a c)) 2) 8) ab ab' → K gr' ab') :
    wX0_addHalfOpen (nI k) (nI 8) (fun j => nI (w j)) (fun j => nI (w j)) gr ab 8 K := by
  have hok := y1_ok W
  have s8 : ∀ l c, sA (y1 n w) l c < 8 := fun l c => S2_1 (S2_A hok l c) rfl
  unfold wX0_addHalfOpen wX4_held
  intro x2 e2
  rw [nI_1, pk_mul] at e2
  subst e2
  unfold wX0_addHalfOpen_L20
  intro P hP
  refine q_cnt0 (Q := fun c => ∀ A B, Acc 104 (fun q => sumN (fun c => sumN (fun i => ind (q = (k + 1) * 8 + sA (y1 n w) (4 + i) c) * g c) 2) c) gr A → Acc 104 (fun q => sumN (fun c => sumN (fun i => ind (q = (k + 1) * 8 + sA (y1 n w) (0 + i) c) * (g c + a c)) 2) c) ab B → P (nI c) A B) 8 ?_ ?_ gr ab (Acc_r _ _) (Acc_r _ _)
  · intro A B hA hB
    exact hP _ _ _ ⟨fun _ => h A B hA hB, fun g => absurd ((q_le (by omega) (by omega)).2 (Nat.le_refl 8)) g⟩
  · intro c hc ih A B hA hB
    refine hP _ _ _ ⟨fun g => absurd ((q_le (by omega) (by omega)).1 g) (by omega), fun _ => ?_⟩
    have rg : A (k * 8 + c) = lN (g c % 1000000007) := Acc_0 hA (by omega) (sumN_0 c (fun j hj => sumN_0 2 (fun i hi => by rw [ind_off hc (s8 _ _) (by omega), Nat.zero_mul]))) (hg c hc)
    have ra : B (k * 8 + c) = lN (a c % 1000000007) := Acc_0 hB (by omega) (sumN_0 c (fun j hj => sumN_0 2 (fun i hi => by rw [ind_off hc (s8 _ _) (by omega), Nat.zero_mul]))) (ha c hc)
    rw [pk_mul, nI_add, q_in (by omega), q_cl (by omega)]
    refine ⟨by omega, fun x4 e4 => ⟨by omega, fun x5 e5 E hE2 => ?_⟩⟩
    rw [rg] at e4
    rw [ra, e4, lN_addL] at e5
    subst e4; subst e5
    have nxt : ∀ A2 B2, Acc 104 (fun q => sumN (fun i => ind (q = (k + 1) * 8 + sA (y1 n w) (4 + i) c) * g c) 2) A A2 → Acc 104 (fun q => sumN (fun i => ind (q = (k + 1) * 8 + sA (y1 n w) (0 + i) c) * (g c + a c)) 2) B B2 → ∀ j, E j A2 B2 := fun A2 B2 h1 h2 j => hE2 j A2 B2 (fun x5 e5 => by
      rw [e5, nI_1]
      exact ih A2 B2 (Acc_sum (F := fun c q => sumN (fun i => ind (q = (k + 1) * 8 + sA (y1 n w) (4 + i) c) * g c) 2) hA h1) (Acc_sum (F := fun c q => sumN (fun i => ind (q = (k + 1) * 8 + sA (y1 n w) (0 + i) c) * (g c + a c)) 2) hB h2))
    unfold wX0_addHalfOpen_L67
    intro R hR
    refine q_cnt0 (Q := fun i => ∀ A2 B2, Acc 104 (fun q => sumN (fun i => ind (q = (k + 1) * 8 + sA (y1 n w) (4 + i) c) * g c) i) A A2 → Acc 104 (fun q => sumN (fun i => ind (q = (k + 1) * 8 + sA (y1 n w) (0 + i) c) * (g c + a c)) i) B B2 → R (nI i) A2 B2) 2 ?_ ?_ A B (Acc_r _ _) (Acc_r _ _)
    · intro A2 B2 h1 h2
      exact hR _ _ _ ⟨fun _ => nxt A2 B2 h1 h2 _, fun g => absurd ((q_le (by omega) (by omega)).2 (Nat.le_refl 2)) g⟩
    · intro i hi ihi A2 B2 h1 h2
      refine hR _ _ _ ⟨fun g => absurd ((q_le (a := 2) (by omega) (by omega)).1 g) (by omega), fun _ => ⟨fun g0 => ?_, fun g0 => ?_⟩⟩
      · rw [q_lg, show (0 : Int64) = lN 0 from rfl, lN_inj (by omega) (by omega)] at g0
        have z1 : g c % 1000000007 = 0 := by omega
        have z2 : (g c + a c) % 1000000007 = 0 := by omega
        have zz : ∀ k2 q, sumN (fun i => ind (q = (k + 1) * 8 + sA (y1 n w) (4 + i) c) * g c) k2 % 1000000007 = 0 := fun k2 q => sumN_m0 k2 (fun s _ => mul_m0 z1)
        have zy : ∀ k2 q, sumN (fun i => ind (q = (k + 1) * 8 + sA (y1 n w) (0 + i) c) * (g c + a c)) k2 % 1000000007 = 0 := fun k2 q => sumN_m0 k2 (fun s _ => mul_m0 z2)
        exact nxt A2 B2 (Acc_m h1 (fun q _ => by rw [zz i q, zz 2 q])) (Acc_m h2 (fun q _ => by rw [zy i q, zy 2 q])) _
      · have sc : S2 (y1 n w) c := by
          apply Classical.byContradiction
          intro ns
          have := hS c hc ns
          apply g0
          rw [this.1, this.2]; rfl
        rw [show (4 : Int32) = nI 4 from rfl, nI_add, show (0 : Int32) + nI i = nI (0 + i) from by rw [← nI_add]; rfl]
        refine q_aloneH (HeldOk_one W W) (by omega) sc ?_
        rw [nI_add]
        have l8 : sA ((n, w), (0, fun _ => 0)) (4 + i) c < 8 := s8 (4 + i) c
        have l9 : sA ((n, w), (0, fun _ => 0)) (0 + i) c < 8 := s8 (0 + i) c
        refine q_addP (M := g c) (by omega) (by omega) (by omega) (by omega) (fun C hC => ?_)
        refine q_aloneH (HeldOk_one W W) (by omega) sc ?_
        rw [nI_add]
        refine q_addP (M := g c + a c) (by omega) (by omega) (by omega) (by omega) (fun D hD x13 e13 => ?_)
        rw [e13, nI_1]
        exact ihi C D (Acc_sum (F := fun i q => ind (q = (k + 1) * 8 + sA (y1 n w) (4 + i) c) * g c) h1 hC) (Acc_sum (F := fun i q => ind (q = (k + 1) * 8 + sA (y1 n w) (0 + i) c) * (g c + a c)) h2 hD)
/-- the lines of the counts that are right -/
def CLn (y : Sy) (sz st : Nat) (pr wo : Nat → Nat) (N : Nat) (wh sp gr ab : Nat → Int64) : Prop := ∀ l, l ≤ N → (∀ i, i < sz → wh (l * 60 + i) = lN (wcn y l (pr i) % 1000000007)) ∧ (∀ s, s < st → 1 ≤ l → sp (l * 60 + s) = lN (scn y l (pr (wo s)) % 1000000007)) ∧ ∀ c, c < 8 → gr (l * 8 + c) = lN (gcn y l c false % 1000000007) ∧ ab (l * 8 + c) = lN (gcn y l c true % 1000000007)
theorem q_extend (W : WfR n m t w) (H : WhOk (y1 n w) sz st pr wo pa so wa nx ar pl sl) (hN : FinS (NSt (y1 n w))) {fn : Nat} {im : Nat → Int32} {spr : Nat → Int64} (F : FI 8 sz pr fn im spr) (hfl : ∀ q x d, NS (y1 n w) q x d → fn.testBit q = true) {k : Nat} (hk : k < 12) {wh sp gr ab : Nat → Int64} (C : CLn (y1 n w) sz st pr wo k wh sp gr ab) {K : (Nat → Int64) → (Nat → Int64) → (Nat → Int64) → (Nat → Int64) → Prop}
    (h : ∀ wh' sp' gr' ab', CLn (y1 n w) sz st pr wo (k + 1) wh' sp' gr' ab' → K wh' sp' gr' ab') :
    wX0_extend (nI (k + 1)) (nI 8) (fun j => nI (w j)) (fun j => nI (w j)) (nI sz) (nI st) wa nx ar pl im wh sp gr ab 8 K := by
  have hok := y1_ok W
  obtain ⟨hW, _⟩ := id H
  have z60 := hW.1
  have s60 := WI_st hW
  have hE := WhOk_Enum H
  have hF := FinS_WS hE
  have hT : FinS (stpS (y1 n w) (WS (y1 n w))) := ⟨_, _, WhOk_steps H⟩
  have hi := hW.2.2.1
  have h8 : ∀ t', NSt (y1 n w) t' → t'.1.1 < 8 := fun t' ht => S2_1 (NS_S2 hok ht) rfl
  have i8 : ∀ c, c < 8 → ∀ s, s < st → imc c (pr (wo s)) < 8 := fun c hc s hs => by
    rw [imc_one hc (R2_1 (WS_R2 hok (hE.1 _ (hW.2.2.2.2.1 s hs).2.1)) rfl)]
    exact img_lt _ _
  have s8 : ∀ l c, sA (y1 n w) l c < 8 := fun l c => S2_1 (S2_A hok l c) rfl
  have gfl : ∀ l c d, c < 8 → gcn (y1 n w) l c d % 1000000007 ≠ 0 → fn.testBit c = true := fun l c d hc hne => by
    apply Classical.byContradiction
    intro hb
    apply hne
    rw [gcn_no hN (fun x d hx => hb (hfl _ _ _ hx))]
  unfold wX0_extend
  refine q_clear (by omega) (fun wh1 sp1 gr1 ab1 k1 k2 k3 k4 => ?_)
  unfold wX4_wholes
  have C1 : CLn (y1 n w) sz st pr wo k wh1 sp1 gr1 ab1 := fun l hl => ⟨fun i hi => by rw [ClrA_at k1 (by omega) (by omega) (by omega)]; exact (C l hl).1 i hi, fun s hs h1 => by rw [ClrA_at k2 (by omega) (by omega) (by omega)]; exact (C l hl).2.1 s hs h1, fun c hc => by rw [ClrA_at k3 (by omega) hc (by omega), ClrA_at k4 (by omega) hc (by omega)]; exact (C l hl).2.2 c hc⟩
  refine q_countSteps H (by omega) (by omega) (fun i hi h2 => (C1 _ (by omega)).1 i hi) (fun s hs => k2.1 s (by omega)) (fun sp2 hs2 hs3 => ?_)
  have S2' : ∀ l, 1 ≤ l → l ≤ k + 1 → ∀ s, s < st → sp2 (l * 60 + s) = lN (scn (y1 n w) l (pr (wo s)) % 1000000007) := fun l h1 hl s hs => by
    by_cases e : l = k + 1
    · rw [e]; exact hs2 s hs
    · exact hs3 l s (by omega) e (by omega) _ ((C1 l (by omega)).2.1 s hs h1)
  unfold wX0_extend_L19
  intro P hP
  let DW : Nat → Nat → Nat := fun l q => sumN (fun i => sumN (fun s => whQ sz pr (k + 1) (thn (pr i) (pr (wo s))) q * (wcn (y1 n w) (k - l) (pr i) * scn (y1 n w) (l + 1) (pr (wo s)))) st) sz
  let DG : Bool → Nat → Nat → Nat := fun d l q => sumN (fun c => sumN (fun s => ind (q = (k + 1) * 8 + imc c (pr (wo s))) * (gcn (y1 n w) (k - l) c d * scn (y1 n w) (l + 1) (pr (wo s)))) st) 8
  have offW : ∀ L l i, l < k + 1 → i < 60 → sumN (fun j => DW j (l * 60 + i)) L = 0 := fun L l i hl hi' => sumN_0 L (fun j _ => sumN_0 sz (fun a _ => sumN_0 st (fun s _ => by rw [whQ_off z60 hi' (by omega), Nat.zero_mul])))
  have offG : ∀ d L l c, l < k + 1 → c < 8 → sumN (fun j => DG d j (l * 8 + c)) L = 0 := fun d L l c hl hc => sumN_0 L (fun j _ => sumN_0 8 (fun a ha => sumN_0 st (fun s hs => by rw [ind_off hc (i8 a ha s hs) (by omega), Nat.zero_mul])))
  have key : ∀ L, L ≤ k + 1 → ∀ A B D, Acc 780 (fun q => sumN (fun j => DW j q) L) wh1 A → Acc 104 (fun q => sumN (fun j => DG false j q) L) gr1 B → Acc 104 (fun q => sumN (fun j => DG true j q) L) ab1 D → P (nI (L + 1)) A B D := by
    refine fun L hL => q_cnt (Q := fun L => ∀ A B D, Acc 780 (fun q => sumN (fun j => DW j q) L) wh1 A → Acc 104 (fun q => sumN (fun j => DG false j q) L) gr1 B → Acc 104 (fun q => sumN (fun j => DG true j q) L) ab1 D → P (nI (L + 1)) A B D) (N := k + 1) ?_ ?_ L hL
    · intro A B D hA hB hD
      refine hP _ _ _ _ ⟨fun _ => ?_, fun g => absurd ((q_lt (by omega) (by omega)).2 (by omega)) g⟩
      rw [show (1 : Int32) = nI 1 from rfl, q_subN (by omega), Nat.add_sub_cancel]
      refine q_addHalf W hk (g := fun c => gcn (y1 n w) k c false) (a := fun c => gcn (y1 n w) k c true) (fun c hc => Acc_0 hB (by omega) (offG _ _ _ _ (by omega) hc) ((C1 k (Nat.le_refl k)).2.2 c hc).1) (fun c hc => Acc_0 hD (by omega) (offG _ _ _ _ (by omega) hc) ((C1 k (Nat.le_refl k)).2.2 c hc).2) (fun c hc ns => ⟨gcn_no hN (fun x d hx => ns (NS_S2 hok hx)), gcn_no hN (fun x d hx => ns (NS_S2 hok hx))⟩) (fun B2 D2 hB2 hD2 => ?_)
      refine h _ _ _ _ (fun l hl => ?_)
      by_cases e : l = k + 1
      · subst e
        refine ⟨fun i hi' => ?_, fun s hs _ => hs2 s hs, fun c hc => ?_⟩
        · rw [hA _ 0 (by omega) (k1.1 i (by omega)), Nat.zero_add]
          congr 2
          rw [wcn_s hF, sumN_rev]
          refine sumN_congr _ (fun j hj => ?_)
          show sumN (fun i' => sumN (fun s => whQ sz pr (k + 1) (thn (pr i') (pr (wo s))) ((k + 1) * 60 + i) * (wcn (y1 n w) (k - j) (pr i') * scn (y1 n w) (j + 1) (pr (wo s)))) st) sz = _
          rw [sumS_E hE]
          refine sumN_congr sz (fun i' _ => ?_)
          rw [show k + 1 - 1 - j = k - j from by omega, show k + 1 - (k - j) = j + 1 from by omega, ← scn_sum hF hT, sumS_E (WhOk_steps H), ← sumN_mul]
          refine sumN_congr st (fun s _ => ?_)
          rw [whQ_at hi z60 hi', Nat.mul_left_comm]
        · have eg : ∀ d, sumN (fun j => DG d j ((k + 1) * 8 + c)) (k + 1) = sumN (fun l => sumN (fun b => gcn (y1 n w) l b d * stf (y1 n w) (wcn (y1 n w)) (k + 1 - l) (fun s => ind (imc b s = c))) 8) (k + 1) := fun d => by
            rw [sumN_rev]
            refine sumN_congr _ (fun j hj => ?_)
            show sumN (fun c' => sumN (fun s => ind ((k + 1) * 8 + c = (k + 1) * 8 + imc c' (pr (wo s))) * (gcn (y1 n w) (k - (k + 1 - 1 - j)) c' d * scn (y1 n w) (k + 1 - 1 - j + 1) (pr (wo s)))) st) 8 = _
            refine sumN_congr 8 (fun b _ => ?_)
            rw [show k - (k + 1 - 1 - j) = j from by omega, show k + 1 - 1 - j + 1 = k + 1 - j from by omega, ← scn_sum hF hT, sumS_E (WhOk_steps H), ← sumN_mul]
            refine sumN_congr st (fun s _ => ?_)
            rw [show ind ((k + 1) * 8 + c = (k + 1) * 8 + imc b (pr (wo s))) = ind (imc b (pr (wo s)) = c) from ind_congr ⟨fun e => by omega, fun e => by omega⟩, Nat.mul_left_comm]
          have ei : ∀ b l, ind ((k + 1) * 8 + c = (k + 1) * 8 + sA (y1 n w) l b) = ind (sA (y1 n w) l b = c) := fun b l => ind_congr ⟨fun e => by omega, fun e => by omega⟩
          have r1 := hB _ 0 (by omega) (k3.1 c hc)
          have r2 := hD _ 0 (by omega) (k4.1 c hc)
          rw [hB2 _ _ (by omega) r1, hD2 _ _ (by omega) r2, Nat.zero_add, Nat.zero_add]
          refine ⟨?_, ?_⟩
          · congr 2
            show sumN (fun j => DG false j ((k + 1) * 8 + c)) (k + 1) + sumN (fun c' => sumN (fun i => ind ((k + 1) * 8 + c = (k + 1) * 8 + sA (y1 n w) (4 + i) c') * gcn (y1 n w) k c' false) 2) 8 = _
            rw [gcn_s hF hN h8, eg false]
            congr 1
            unfold hfG
            refine sumN_congr 8 (fun b _ => ?_)
            rw [if_neg (by decide), ← sumN_mul]
            exact sumN_congr 2 (fun i _ => by rw [ei, Nat.mul_comm])
          · congr 2
            show sumN (fun j => DG true j ((k + 1) * 8 + c)) (k + 1) + sumN (fun c' => sumN (fun i => ind ((k + 1) * 8 + c = (k + 1) * 8 + sA (y1 n w) (0 + i) c') * (gcn (y1 n w) k c' false + gcn (y1 n w) k c' true)) 2) 8 = _
            rw [gcn_s hF hN h8, eg true]
            congr 1
            unfold hfG
            refine sumN_congr 8 (fun b _ => ?_)
            rw [if_pos rfl, ← sumN_mul]
            exact sumN_congr 2 (fun i _ => by rw [ei, Nat.zero_add, Nat.mul_comm, Nat.add_comm (gcn (y1 n w) k b false)])
      · have hl' : l ≤ k := by omega
        refine ⟨fun i hi' => Acc_0 hA (by omega) (offW _ _ _ (by omega) (by omega)) ((C1 l hl').1 i hi'), fun s hs h1 => S2' l h1 hl s hs, fun c hc => ?_⟩
        have r1 := Acc_0 hB (by omega) (offG _ (k + 1) l c (by omega) hc) ((C1 l hl').2.2 c hc).1
        have r2 := Acc_0 hD (by omega) (offG _ (k + 1) l c (by omega) hc) ((C1 l hl').2.2 c hc).2
        exact ⟨Acc_0 hB2 (by omega) (sumN_0 8 (fun b _ => sumN_0 2 (fun i _ => by rw [ind_off hc (s8 _ _) (by omega), Nat.zero_mul]))) r1, Acc_0 hD2 (by omega) (sumN_0 8 (fun b _ => sumN_0 2 (fun i _ => by rw [ind_off hc (s8 _ _) (by omega), Nat.zero_mul]))) r2⟩
    · intro L hL ih A B D hA hB hD
      refine hP _ _ _ _ ⟨fun g => absurd ((q_lt (by omega) (by omega)).1 g) (by omega), fun _ => ?_⟩
      have ek : k - L + (L + 1) = k + 1 := by omega
      have cn : ∀ {A A' : Nat → Int64} {N : Nat} {D E : Nat → Nat}, Acc N D A A' → D = E → Acc N E A A' := fun h e => by rw [← e]; exact h
      rw [q_subN (by omega), show k + 1 - (L + 1) = k - L from by omega]
      refine q_addWholes H (a := k - L) (b := L + 1) (by omega) (by omega) (W := fun x => wcn (y1 n w) (k - L) x) (S := fun s => scn (y1 n w) (L + 1) s) (fun i hi' => Acc_0 hA (by omega) (offW _ _ _ (by omega) (by omega)) ((C1 _ (by omega)).1 i hi')) (fun s hs => S2' _ (by omega) (by omega) s hs) (fun A2 hA2 => ?_)
      refine q_addCodes H hok rfl F (a := k - L) (b := L + 1) (by omega) (by omega) (g := fun c => gcn (y1 n w) (k - L) c false) (S := fun s => scn (y1 n w) (L + 1) s) (fun c hc => Acc_0 hB (by omega) (offG _ _ _ _ (by omega) hc) ((C1 _ (by omega)).2.2 c hc).1) (fun c hc => gfl _ c _ hc) (fun s hs => S2' _ (by omega) (by omega) s hs) (fun B2 hB2 => ?_)
      refine q_addCodes H hok rfl F (a := k - L) (b := L + 1) (by omega) (by omega) (g := fun c => gcn (y1 n w) (k - L) c true) (S := fun s => scn (y1 n w) (L + 1) s) (fun c hc => Acc_0 hD (by omega) (offG _ _ _ _ (by omega) hc) ((C1 _ (by omega)).2.2 c hc).2) (fun c hc => gfl _ c _ hc) (fun s hs => S2' _ (by omega) (by omega) s hs) (fun D2 hD2 => ?_)
      intro x14 e14
      rw [e14, nI_1]
      refine ih A2 B2 D2 (Acc_sum (F := DW) hA (cn hA2 (by rw [ek]))) (Acc_sum (F := DG false) hB (cn hB2 (by rw [ek]))) (Acc_sum (F := DG true) hD (cn hD2 (by rw [ek])))
  exact key 0 (by omega) wh1 gr1 ab1 (Acc_r _ _) (Acc_r _ _) (Acc_r _ _)
end
