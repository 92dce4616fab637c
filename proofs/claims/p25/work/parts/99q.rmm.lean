theorem sumN_tr {f : Nat → Nat} {m : Nat} : ∀ L, m ≤ L → sumN (fun l => if l < m then f l else 0) L = sumN f m
  | 0, h => by rw [show m = 0 from by omega]; rfl
  | L + 1, h => by
    rw [sumN_s]
    by_cases e : m = L + 1
    · rw [e, if_pos (by omega), sumN_s]
      congr 1
      exact sumN_congr L (fun l hl => if_pos (by omega))
    · rw [if_neg (by omega), Nat.add_zero]; exact sumN_tr L (by omega)
/-- what the first L lines have given to a line -/
noncomputable def pnc (y : Sy) (L m : Nat) (t : Nd) : Nat := (if m = 0 then ind (t = ((s0 y, sE y), false)) else 0) + sumN (fun l => if l < m then sumS (NSt y) (fun t' => ncn y l t' * stN y (m - l) t' t) else 0) L
theorem pnc_le {y : Sy} (hN : FinS (NSt y)) {L m : Nat} (h : m ≤ L) (t : Nd) : pnc y L m t = ncn y m t := by
  unfold pnc
  rw [sumN_tr L h]
  cases m with
  | zero => rw [if_pos rfl, ncn_0]; rfl
  | succ m => rw [if_neg (by omega), Nat.zero_add, ncn_s hN]
theorem pnc_s {y : Sy} (L m : Nat) (t : Nd) : pnc y (L + 1) m t = pnc y L m t + (if L < m then sumS (NSt y) (fun t' => ncn y L t' * stN y (m - L) t' t) else 0) := by
  unfold pnc
  rw [sumN_s, Nat.add_assoc]
section
variable {wh n0 m0 t0 n1 m1 t1 : Nat} {w0 w1 : Nat → Nat} {st mk tk pu go cl : Nat → Int32} {y : Sy}
theorem m_countNodes (hw : wh < 3) (hy : y = syM wh n0 w0 n1 w1) (hok : SyOk y) (M : MdOk n0 m0 t0 w0 n1 m1 t1 w1 st mk tk pu go cl) {wn : Nat} {xs : Nat → Nat} {wo : Nat → Int32} (WW : WM y wh wn xs wo) (WE : Enum (WS y) xs wn) {n : Nat} {nd : Nat → Nd} {co si de : Nat → Int32} (WN' : WN y wh n nd co si de) (n1' : 1 ≤ n) (d0 : nd 0 = ((s0 y, sE y), false)) (NE : Enum (NSt y) nd n)
    {N : Nat} (hN : N ≤ 12) {wm : Nat → Int64} (hwm : ∀ l, l ≤ N → ∀ k, k < wn → wm (64 * l + k) = lN (wcn y l (xs k) % 1000000007)) {bt : Nat → Int32} {nm : Nat → Int64} {K : (Nat → Int32) → (Nat → Int64) → Prop} (h : ∀ bt' nm', (∀ k, k < n → nm' (128 * N + k) = lN (ncn y N (nd k) % 1000000007)) → K bt' nm') :
    wX12_countNodes (nI wh) (nI N) (nI wn) (nI n) st mk pu go cl wo co si de wm bt nm K := by
  have n120 := WN'.1
  have hFN : FinS (NSt y) := ⟨nd, n, NE⟩
  unfold wX12_countNodes
  refine m_findBlocks hw hy hok M WW WN' NE (fun bt' BT => ?_)
  unfold wX12_countNodes_L7
  intro P hP
  refine q_cnt0 (Q := fun k => ∀ A, (∀ q, q < k → A q = lN (0 % 1000000007)) → P (nI k) A) 1664 ?_ ?_ nm (fun q hq => by omega)
  · intro A hA
    refine hP _ _ ⟨fun _ => ⟨(q_in (n := 0) (by omega)).2 (by omega), fun g2 e2 => ?_⟩, fun g => absurd ((q_le (by omega) (by omega)).2 (Nat.le_refl 1664)) g⟩
    have g0 : ∀ q, q < 1664 → g2 q = lN ((if q = 0 then 1 else 0) % 1000000007) := fun q hq => by
      rw [e2, q_apL]
      by_cases g : q = 0
      · rw [if_pos g]
        have : q = (0 : Int32).toNatClampNeg := by rw [g]; decide
        rw [if_pos this]; rfl
      · rw [if_neg g]
        have : ¬ q = (0 : Int32).toNatClampNeg := fun e => g (by rw [e]; decide)
        rw [if_neg this]; exact hA q hq
    unfold wX12_countNodes_L36
    intro R hR
    have key : ∀ d L A, N - L = d → L ≤ N → (∀ m, m ≤ N → ∀ k, k < n → A (128 * m + k) = lN (pnc y L m (nd k) % 1000000007)) → R (nI L) A := by
      intro d
      induction d with
      | zero =>
        intro L A hd hL RA
        have eL : L = N := by omega
        subst eL
        refine hR _ _ ⟨fun _ => h bt' A (fun k hk => ?_), fun g => absurd ((q_le (by omega) (by omega)).2 (Nat.le_refl L)) g⟩
        rw [RA L (Nat.le_refl L) k hk, pnc_le hFN (Nat.le_refl L)]
      | succ d ih =>
        intro L A hd hL RA
        refine hR _ _ ⟨fun g => absurd ((q_le (by omega) (by omega)).1 g) (by omega), fun _ => ?_⟩
        unfold wX12_countNodes_L44
        intro S hS
        refine q_cnt0 (Q := fun k => ∀ B, Acc 1664 (fun q => sumN (fun k => cbD y wn xs n nd L N k (ncn y L (nd k)) q) k) A B → S (nI k) B) n ?_ ?_ A (Acc_r _ _)
        · intro B hB
          refine hS _ _ ⟨fun _ x6 e6 => ?_, fun g => absurd ((q_le (by omega) (by omega)).2 (Nat.le_refl n)) g⟩
          rw [e6, nI_1]
          refine ih (L + 1) B (by omega) (by omega) (fun m hm k hk => ?_)
          refine Acc_all hB (by omega) (RA m hm k hk) ?_
          congr 1
          rw [pnc_s]
          congr 1
          rw [sumN_congr n (fun k' _ => cbD_at WE n120 NE (by omega) hm hk)]
          by_cases g : L < m
          · simp only [if_pos g]
            rw [sumS_E NE]
          · simp only [if_neg g]
            exact sumN_0 n (fun _ _ => rfl)
        · intro k hk ihk B hB
          refine hS _ _ ⟨fun g => absurd ((q_le (by omega) (by omega)).1 g) (by omega), fun _ => ?_⟩
          have z : sumN (fun k' => cbD y wn xs n nd L N k' (ncn y L (nd k')) (128 * L + k)) k = 0 := sumN_0 k (fun k' _ => by rw [cbD_at WE n120 NE (by omega) (by omega) hk, if_neg (by omega)])
          have rB : B (128 * L + k) = lN (ncn y L (nd k) % 1000000007) := by
            have := Acc_0 hB (by omega) z (RA L (by omega) k hk)
            rw [pnc_le hFN (Nat.le_refl L)] at this
            exact this
          rw [show (128 : Int32) = nI 128 from rfl, pk_mul, nI_add, q_in (by omega), q_cl (by omega), rB]
          refine ⟨by omega, fun x7 e7 => ?_⟩
          subst e7
          refine ⟨fun g x9 e9 => ?_, fun g => ?_⟩
          · have g := lg_res.1 g
            rw [e9, nI_1]
            exact ihk B (Acc_sum (F := fun k q => cbD y wn xs n nd L N k (ncn y L (nd k)) q) hB (Acc_m (Acc_r _ _) (fun q _ => by rw [cbD_m0 g])))
          · refine m_countBehind hw hy hok M WW WN' NE BT (by omega) hN hk hwm (fun C hC x11 e11 => ?_)
            rw [e11, nI_1]
            exact ihk C (Acc_sum (F := fun k q => cbD y wn xs n nd L N k (ncn y L (nd k)) q) hB hC)
    refine key N 0 g2 rfl (by omega) (fun m hm k hk => ?_)
    rw [g0 _ (by omega)]
    congr 2
    show _ = _ + 0
    rw [Nat.add_zero]
    by_cases g : m = 0
    · rw [if_pos g]
      by_cases g3 : k = 0
      · rw [if_pos (by omega), ind_t (by rw [g3]; exact d0)]
      · rw [if_neg (by omega), ind_f (fun e => g3 (NE.2.1 k 0 hk (by omega) (by rw [e, d0])))]
    · rw [if_neg g, if_neg (by omega)]
  · intro k hk ih A hA
    refine hP _ _ ⟨fun g => absurd ((q_le (a := 1664) (by omega) (by omega)).1 g) (by omega), fun _ => ?_⟩
    rw [q_in (by omega), q_cl (by omega)]
    refine ⟨by omega, fun g19 e19 x20 e20 => ?_⟩
    rw [e20, nI_1, e19]
    refine ih _ (fun q hq => ?_)
    rw [q_apL]
    by_cases g : q = k
    · rw [if_pos g]; rfl
    · rw [if_neg g]; exact hA q (by omega)
end
theorem m_many {n0 m0 t0 n1 m1 t1 : Nat} {w0 w1 : Nat → Nat} {st mk tk pu go cl : Nat → Int32} (M : MdOk n0 m0 t0 w0 n1 m1 t1 w1 st mk tk pu go cl) {x p kn sp wz nz pz : Int32} {wo wl co si de lo bt : Nat → Int32} {wm nm : Nat → Int64} (C : FPc n0 w0 n1 w1 kn sp wz nz pz wo co si de)
    {K : Int32 → Int32 → Int32 → Int32 → Int32 → Int32 → (Nat → Int32) → (Nat → Int32) → (Nat → Int32) → (Nat → Int32) → (Nat → Int32) → (Nat → Int32) → (Nat → Int64) → (Nat → Int32) → (Nat → Int64) → Prop}
    (h1 : ∀ r N v, r < 2 → x = nI r → N ≤ 12 → p = nI N → manV (syM r n0 w0 n1 w1) (sel r t0 t1) N v → ∀ kn sp wz nz pz wo wl co si de lo wm bt nm, FPc n0 w0 n1 w1 kn sp wz nz pz wo co si de → K v kn sp wz nz pz wo wl co si de lo wm bt nm)
    (h3 : ∀ r, r < 2 → x = nI r → (∀ N, N ≤ 12 → p ≠ nI N) → K (-nI 3) kn sp wz nz pz wo wl co si de lo wm bt nm)
    (h2 : (∀ r, r < 2 → x ≠ nI r) → K (-nI 2) kn sp wz nz pz wo wl co si de lo wm bt nm) :
    wX12_many x p kn sp wz nz pz st mk tk pu go cl wo wl co si de lo wm bt nm K := by
  unfold wX12_many
  refine q_isR (fun r hr e => ⟨fun g => absurd g (by decide), fun _ => ?_⟩) (fun g => ⟨fun _ => h2 g, fun g => absurd rfl g⟩)
  refine q_behind (z := 12) (by omega) (fun N hN eN => ⟨fun g => absurd g (by decide), fun _ => ?_⟩) (fun g => ⟨fun _ => h3 r hr e g, fun g => absurd rfl g⟩)
  subst e; subst eN
  have hok := syM_ok (wh := r) (by omega) M
  refine m_findPlaces (by omega) rfl M (C r (by omega)) (fun sp wz nz pz wo wl co si de lo F => ?_)
  have C' : FPc n0 w0 n1 w1 (nI r) sp wz nz pz wo co si de := fun wh' h' e => by
    rw [q_eq (by omega) (by omega)] at e
    subst e
    exact F
  have fin := fun v hv wm bt nm => h1 r N v hr rfl hN rfl hv (nI r) sp wz nz pz wo wl co si de lo wm bt nm C'
  rcases F with ⟨e, hb⟩ | ⟨e, wn, xs, n, nd, p, ew, en, ep, hp, WW, WE, hW, n1', d0, hE, f, hf⟩
  · rw [e] at fin ⊢
    exact ⟨fun g => absurd g (by decide), fun _ => fin _ (.inl ⟨hb, rfl⟩) _ _ _⟩
  · have nb : ¬ Big (PS (syM r n0 w0 n1 w1)) := fun hb => by have := Enum_Big hf hb; omega
    rw [e, ew, en] at fin ⊢
    refine ⟨fun _ => ?_, fun g => absurd rfl g⟩
    have n120 := hW.1
    have h8 : ∀ t', NSt (syM r n0 w0 n1 w1) t' → t'.1.1 < 8 := fun t' ht => S2_1 (NS_S2 hok ht) (syM_2 hr)
    refine m_countWholes (by omega) rfl hok M WW WE hN (fun wm' hwm => ?_)
    refine m_countNodes (by omega) rfl hok M WW WE hW n1' d0 hE hN hwm (fun bt' nm' hnm => ?_)
    unfold wX12_many_L55
    intro P hP
    let ψ : Nat → Nat := fun c => if tkB (sel r t0 t1) c then 1 else 0
    let F : Nat → Nat := fun k => ncn (syM r n0 w0 n1 w1) N (nd k) % 1000000007 * ψ (nd k).1.1
    have bd : ∀ k, sumN F k ≤ k * 1000000007 := fun k => sumN_le (fun i => by
      show _ % 1000000007 * (if _ then 1 else 0) ≤ _
      split <;> omega) k
    refine q_cnt0 (Q := fun k => P (lN (sumN F k)) (nI k)) n ?_ ?_
    · refine hP _ _ ⟨fun _ => ?_, fun g => absurd ((q_le (by omega) (by omega)).2 (Nat.le_refl n)) g⟩
      have := bd n
      dsimp only
      rw [q_modL (by omega), q_i32 (by omega)]
      refine fin _ (.inr ⟨nb, ?_⟩) _ _ _
      congr 1
      have e1 : sumN F n % 1000000007 = sumN (fun k => ncn (syM r n0 w0 n1 w1) N (nd k) * ψ (nd k).1.1) n % 1000000007 := sumN_mc n (fun i _ => by
        show _ % 1000000007 * ψ (nd i).1.1 % 1000000007 = _
        rw [Nat.mod_mul_mod])
      rw [e1, ← sumS_E hE (fun t => ncn (syM r n0 w0 n1 w1) N t * ψ t.1.1), ncn_tot ⟨nd, n, hE⟩ h8]
      congr 1
      unfold manS
      refine sumN_congr 8 (fun b _ => ?_)
      show _ * (if _ then 1 else 0) = _
      split
      · rw [Nat.mul_one]
      · rw [Nat.mul_zero]
    · intro k hk ih
      refine hP _ _ ⟨fun g => absurd ((q_le (by omega) (by omega)).1 g) (by omega), fun _ => ?_⟩
      obtain ⟨wc, ws, wd, wt⟩ := hW.2.1 k hk
      rw [q_in (by omega), q_cl (by omega), wc]
      refine ⟨by omega, m_takeR hr M (h8 _ wt) ?_⟩
      have es : sumN F (k + 1) = sumN F k + F k := rfl
      have eF : F k = ncn (syM r n0 w0 n1 w1) N (nd k) % 1000000007 * (if tkB (sel r t0 t1) (nd k).1.1 then 1 else 0) := rfl
      cases et : tkB (sel r t0 t1) (nd k).1.1 with
      | false =>
        rw [et] at eF
        have eF : F k = 0 := eF
        refine ⟨fun _ x23 e23 x24 e24 => ?_, fun g => absurd rfl g⟩
        rw [e24, nI_1, e23, show (0 : Int64) = lN 0 from rfl, lN_addL]
        rw [es, eF] at ih; exact ih
      | true =>
        rw [et] at eF
        have eF : F k = ncn (syM r n0 w0 n1 w1) N (nd k) % 1000000007 := by rw [eF, if_pos rfl, Nat.mul_one]
        refine ⟨fun g => absurd g (by decide), fun _ => ?_⟩
        rw [show (128 : Int32) = nI 128 from rfl, pk_mul, nI_add, q_in (by omega), q_cl (by omega), hnm k hk]
        refine ⟨by omega, fun x25 e25 x26 e26 => ?_⟩
        rw [e26, nI_1, e25, lN_addL]
        rw [es, eF] at ih; exact ih
