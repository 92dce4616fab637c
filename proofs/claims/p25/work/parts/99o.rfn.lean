section
variable {wh n0 m0 t0 n1 m1 t1 : Nat} {w0 w1 : Nat → Nat} {st mk tk pu go cl : Nat → Int32} {y : Sy}
def BTk (y : Sy) (wn : Nat) (xs : Nat → Nat) (n : Nat) (nd : Nat → Nd) (bt : Nat → Int32) : Prop := ∀ k, k < n → ∀ q, q < 4 * wn → ∃ j, j < n ∧ bt (240 * k + q) = nI j ∧ nd j = nst (nd k) (sB y (q % 4 / 2) (4 + q % 2) (xs (q / 4)))
theorem m_findBlocks (hw : wh < 3) (hy : y = syM wh n0 w0 n1 w1) (hok : SyOk y) (M : MdOk n0 m0 t0 w0 n1 m1 t1 w1 st mk tk pu go cl) {wn : Nat} {xs : Nat → Nat} {wo : Nat → Int32} (WW : WM y wh wn xs wo) {n : Nat} {nd : Nat → Nd} {co si de : Nat → Int32} (WN' : WN y wh n nd co si de) (NE : Enum (NSt y) nd n) {bt : Nat → Int32} {K : (Nat → Int32) → Prop} (h : ∀ bt', BTk y wn xs n nd bt' → K bt') :
    wX12_findBlocks (nI wh) (nI wn) (nI n) mk pu cl wo co si de bt K := by
  obtain ⟨h1, h60, h0, hW, hi⟩ := id WW
  have n120 := WN'.1
  have mB : ∀ {a e x : Nat} {K : Int32 → Prop}, a < 2 → 4 ≤ e → e < 6 → R2 y x → K (nI (ph wh (sB y a e x))) → wX12_block (nI wh) (nI a) (nI (ph wh x)) (nI e) mk pu cl K := fun h1 h2 h3 h4 h => by rw [hy] at h h4; exact m_block hw M h1 h2 h3 h4 h
  have mF : ∀ {x z : Nat} {K : Int32 → Prop}, R2 y x → R2 y z → K (nI (ph wh (thn x z))) → wX12_follow (nI (ph wh x)) (nI (ph wh z)) K := fun hx hz h => by rw [hy] at hx hz; exact m_follow (n0 := n0) (w0 := w0) (n1 := n1) (w1 := w1) hw hx hz h
  have mI : ∀ {c z : Nat} {K : Int32 → Prop}, S2 y c → R2 y z → K (nI (ps wh (imc c z))) → wX12_image (nI (ps wh c)) (nI (ph wh z)) K := fun hc hz h => by rw [hy] at hc hz; exact m_image (n0 := n0) (w0 := w0) (n1 := n1) (w1 := w1) hw hc hz h
  let T : (Nat → Int32) → Nat → Nat → Prop := fun b k q => ∃ j, j < n ∧ b (240 * k + q) = nI j ∧ nd j = nst (nd k) (sB y (q % 4 / 2) (4 + q % 2) (xs (q / 4)))
  unfold wX12_findBlocks wX12_findBlocks_L2
  intro P hP
  refine q_cnt0 (Q := fun k => ∀ b, (∀ k', k' < k → ∀ q, q < 4 * wn → T b k' q) → P (nI k) b) n ?_ ?_ bt (fun k' hk' => by omega)
  · intro b hb
    exact hP _ _ ⟨fun _ => h b hb, fun g => absurd ((q_le (by omega) (by omega)).2 (Nat.le_refl n)) g⟩
  · intro k hk ih b hb
    refine hP _ _ ⟨fun g => absurd ((q_le (by omega) (by omega)).1 g) (by omega), fun _ => ?_⟩
    unfold wX12_findBlocks_L12
    intro R hR
    refine q_cnt0 (Q := fun q => ∀ b, (∀ k', k' < k → ∀ q, q < 4 * wn → T b k' q) → (∀ q', q' < q → T b k q') → R (nI q) b) (4 * wn) ?_ ?_ b hb (fun q hq => by omega)
    · intro b hb hb2
      refine hR _ _ ⟨fun _ x3 e3 => ?_, fun g => absurd ?_ g⟩
      · rw [e3, nI_1]
        refine ih b (fun k' hk' q hq => ?_)
        by_cases e : k' = k
        · rw [e]; exact hb2 q hq
        · exact hb k' (by omega) q hq
      · rw [show (4 : Int32) = nI 4 from rfl, pk_mul]
        exact (q_le (by omega) (by omega)).2 (Nat.le_refl _)
    · intro q hq ihq b hb hb2
      refine hR _ _ ?_
      obtain ⟨wc, ws, wd, wt⟩ := WN'.2.1 k hk
      have bn := PS_b hok ⟨_, wt⟩
      have bO := WS_R2 hok (hW (q / 4) (by omega)).2
      have rB := R2_B hok (q % 4 / 2) (4 + q % 2) (xs (q / 4))
      have hs : stpS y (WS y) (sB y (q % 4 / 2) (4 + q % 2) (xs (q / 4))) := .inr (.inr ⟨_, _, _, by omega, by omega, by omega, (hW (q / 4) (by omega)).2, rfl⟩)
      have ht := NSt_st wt hs
      have bt' := PS_b hok ⟨_, ht⟩
      rw [show (4 : Int32) = nI 4 from rfl, show (2 : Int32) = nI 2 from rfl, pk_mul, q_divN (by omega) (by omega) (by omega), q_divN (by omega) (by omega) (by omega), pk_mul, pk_mul, q_remN', q_remN', q_divN (by omega) (by omega) (by omega), nI_add, q_in (by omega), q_in (by omega), q_cl (by omega), q_cl (by omega), (hW (q / 4) (by omega)).1, wc, ws, wd]
      refine ⟨fun g => absurd ((q_le (by omega) (by omega)).1 g) (by omega), fun _ => ⟨by omega, mB (by omega) (by omega) (by omega) bO ⟨by omega, mI bn.1 rB ⟨by omega, mF bn.2 rB ⟨by omega, ?_⟩⟩⟩⟩⟩
      refine m_nodeOf WN' hw hy hok (t := nst (nd k) (sB y (q % 4 / 2) (4 + q % 2) (xs (q / 4)))) (ps_lt hw hy bt'.1) (ph_lt hw hy bt'.2) (fun j hj ej => ?_) (fun g => ?_)
      · rw [show (240 : Int32) = nI 240 from rfl, pk_mul, nI_add, q_in (by omega), q_cl (by omega)]
        refine ⟨by omega, fun g8 e8 x9 e9 => ?_⟩
        rw [e9, nI_1, e8]
        refine ihq _ (fun k' hk' q' hq' => ?_) (fun q' hq' => ?_)
        · obtain ⟨j', a1, a2, a3⟩ := hb k' hk' q' hq'
          exact ⟨j', a1, by rw [q_ap, if_neg (by omega)]; exact a2, a3⟩
        · by_cases e : q' = q
          · subst e
            exact ⟨j, hj, by rw [q_ap, if_pos rfl], ej⟩
          · obtain ⟨j', a1, a2, a3⟩ := hb2 q' (by omega)
            exact ⟨j', a1, by rw [q_ap, if_neg (by omega)]; exact a2, a3⟩
      · obtain ⟨j, hj, ej⟩ := NE.2.2 _ ht
        exact absurd ej (g j hj)
theorem m_addNode (hw : wh < 3) (hy : y = syM wh n0 w0 n1 w1) (hok : SyOk y) {n : Nat} {nd : Nat → Nd} {co si de : Nat → Int32} (WN' : WN y wh n nd co si de) (NE : Enum (NSt y) nd n) {m N : Nat} (hN : N ≤ 12) (hm : m ≤ N) {t : Nd} (ht : NSt y t) {X : Nat} {A : Nat → Int64} {K : (Nat → Int64) → Prop} (h : ∀ A', Acc 1664 (fun q => whW 128 n nd m t q * X) A A' → K A') :
    wX12_addNode (nI m) (nI N) (nI (ps wh t.1.1)) (nI (ph wh t.1.2)) (nI (bI t.2)) (lN (X % 1000000007)) (nI n) co si de A K := by
  have n120 := WN'.1
  have bt' := PS_b hok ⟨_, ht⟩
  unfold wX12_addNode
  refine ⟨fun g => absurd ((q_lt (by omega) (by omega)).1 g) (by omega), fun _ => ⟨fun g => ?_, fun g => ?_⟩⟩
  · have g := lg_res.1 g
    exact h A (Acc_m (Acc_r _ _) (fun q _ => by rw [mul_m0 g]))
  · refine m_nodeOf WN' hw hy hok (t := t) (ps_lt hw hy bt'.1) (ph_lt hw hy bt'.2) (fun j hj ej => ?_) (fun g => ?_)
    · intro x4 e4
      rw [show (128 : Int32) = nI 128 from rfl, pk_mul, nI_add] at e4
      subst e4
      rw [q_in (by omega), q_cl (by omega)]
      refine ⟨by omega, fun x5 e5 => ⟨by omega, fun g6 e6 => ?_⟩⟩
      rw [e6, e5]
      refine h _ (Acc_e (Acc_upd (M := X) (by omega) (by omega) A) (fun q _ => ?_))
      rw [whW_eq NE.2.1 hj ej]
    · obtain ⟨j, hj, ej⟩ := NE.2.2 _ ht
      exact absurd ej (g j hj)
/-- what one node gives to all lines -/
noncomputable def cbD (y : Sy) (wn : Nat) (xs : Nat → Nat) (n : Nat) (nd : Nat → Nd) (L N k X q : Nat) : Nat :=
  sumN (fun i => whW 128 n nd (L + 1) (nst (nd k) (sP y (2 + i))) q * X) 2 + sumN (fun l => sumN (fun o => sumN (fun v => whW 128 n nd (L + l + 2) (nst (nd k) (sB y (v / 2) (4 + v % 2) (xs o))) q * (X * wcn y l (xs o))) 4) wn) (N - 1 - L) +
    sumN (fun l => whW 128 n nd (L + 1) ((sA y l (nd k).1.1, sE y), true) q * X + ind ((nd k).2 = false) * (whW 128 n nd (L + 1) ((sA y (4 + l) (nd k).1.1, sE y), false) q * X)) 2
theorem cbD_m0 {wn : Nat} {xs : Nat → Nat} {n : Nat} {nd : Nat → Nd} {L N k X q : Nat} (hX : X % 1000000007 = 0) : cbD y wn xs n nd L N k X q % 1000000007 = 0 := by
  have a := sumN_m0 (F := fun i => whW 128 n nd (L + 1) (nst (nd k) (sP y (2 + i))) q * X) 2 (fun i _ => mul_m0 hX)
  have b := sumN_m0 (F := fun l => sumN (fun o => sumN (fun v => whW 128 n nd (L + l + 2) (nst (nd k) (sB y (v / 2) (4 + v % 2) (xs o))) q * (X * wcn y l (xs o))) 4) wn) (N - 1 - L) (fun i _ => sumN_m0 wn (fun o _ => sumN_m0 4 (fun v _ => mul_m0 (mul_m0' hX))))
  have c := sumN_m0 (F := fun l => whW 128 n nd (L + 1) ((sA y l (nd k).1.1, sE y), true) q * X + ind ((nd k).2 = false) * (whW 128 n nd (L + 1) ((sA y (4 + l) (nd k).1.1, sE y), false) q * X)) 2 (fun i _ => by
    have c1 := mul_m0 (a := whW 128 n nd (L + 1) ((sA y i (nd k).1.1, sE y), true) q) hX
    have c2 := mul_m0 (a := ind ((nd k).2 = false)) (mul_m0 (a := whW 128 n nd (L + 1) ((sA y (4 + i) (nd k).1.1, sE y), false) q) hX)
    omega)
  unfold cbD
  omega
theorem cbD_at {wn : Nat} {xs : Nat → Nat} (WE : Enum (WS y) xs wn) {n : Nat} {nd : Nat → Nd} (n120 : n ≤ 120) (NE : Enum (NSt y) nd n) {L N k X m i : Nat} (hL : L < N) (hm : m ≤ N) (hi : i < n) : cbD y wn xs n nd L N k X (128 * m + i) = if L < m then X * stN y (m - L) (nd k) (nd i) else 0 := by
  have hj := NE.2.1
  unfold cbD
  by_cases g : m ≤ L
  · rw [if_neg (by omega)]
    have a : sumN (fun i' => whW 128 n nd (L + 1) (nst (nd k) (sP y (2 + i'))) (128 * m + i) * X) 2 = 0 := sumN_0 2 (fun i' _ => by rw [whW_off (by omega) (by omega) (by omega), Nat.zero_mul])
    have b : sumN (fun l => sumN (fun o => sumN (fun v => whW 128 n nd (L + l + 2) (nst (nd k) (sB y (v / 2) (4 + v % 2) (xs o))) (128 * m + i) * (X * wcn y l (xs o))) 4) wn) (N - 1 - L) = 0 := sumN_0 _ (fun l _ => sumN_0 _ (fun o _ => sumN_0 _ (fun v _ => by rw [whW_off (by omega) (by omega) (by omega), Nat.zero_mul])))
    have c : sumN (fun l => whW 128 n nd (L + 1) ((sA y l (nd k).1.1, sE y), true) (128 * m + i) * X + ind ((nd k).2 = false) * (whW 128 n nd (L + 1) ((sA y (4 + l) (nd k).1.1, sE y), false) (128 * m + i) * X)) 2 = 0 := sumN_0 2 (fun i' _ => by rw [whW_off (by omega) (by omega) (by omega), whW_off (by omega) (by omega) (by omega), Nat.zero_mul, Nat.mul_zero])
    rw [a, b, c]
  · rw [if_pos (by omega)]
    by_cases g2 : m = L + 1
    · subst g2
      have b : sumN (fun l => sumN (fun o => sumN (fun v => whW 128 n nd (L + l + 2) (nst (nd k) (sB y (v / 2) (4 + v % 2) (xs o))) (128 * (L + 1) + i) * (X * wcn y l (xs o))) 4) wn) (N - 1 - L) = 0 := sumN_0 _ (fun l _ => sumN_0 _ (fun o _ => sumN_0 _ (fun v _ => by rw [whW_off (by omega) (by omega) (by omega), Nat.zero_mul])))
      have e1 : sumN (fun i' => whW 128 n nd (L + 1) (nst (nd k) (sP y (2 + i'))) (128 * (L + 1) + i) * X) 2 = X * sumN (fun i' => ind (nst (nd k) (sP y (2 + i')) = nd i)) 2 := by
        rw [← sumN_mul]
        exact sumN_congr 2 (fun j _ => by rw [whW_at hj (by omega) hi, Nat.mul_comm])
      have e3 : sumN (fun l => whW 128 n nd (L + 1) ((sA y l (nd k).1.1, sE y), true) (128 * (L + 1) + i) * X + ind ((nd k).2 = false) * (whW 128 n nd (L + 1) ((sA y (4 + l) (nd k).1.1, sE y), false) (128 * (L + 1) + i) * X)) 2 = X * (sumN (fun l => ind (((sA y l (nd k).1.1, sE y), true) = nd i)) 2 + ind ((nd k).2 = false) * sumN (fun l => ind (((sA y (4 + l) (nd k).1.1, sE y), false) = nd i)) 2) := by
        rw [Nat.mul_add X, ← sumN_mul X, Nat.mul_left_comm X, ← sumN_mul X, ← sumN_mul (ind _), ← sumN_add]
        exact sumN_congr 2 (fun j _ => by rw [whW_at hj (by omega) hi, whW_at hj (by omega) hi, Nat.mul_comm X, Nat.mul_comm X])
      rw [b, show L + 1 - L = 1 from by omega, e1, e3]
      unfold stN stf hlf
      rw [if_pos rfl, if_neg (by omega), if_pos rfl]
      exact (Nat.mul_add _ _ _).symm
    · have a : sumN (fun i' => whW 128 n nd (L + 1) (nst (nd k) (sP y (2 + i'))) (128 * m + i) * X) 2 = 0 := sumN_0 2 (fun i' _ => by rw [whW_off (by omega) (by omega) (by omega), Nat.zero_mul])
      have c : sumN (fun l => whW 128 n nd (L + 1) ((sA y l (nd k).1.1, sE y), true) (128 * m + i) * X + ind ((nd k).2 = false) * (whW 128 n nd (L + 1) ((sA y (4 + l) (nd k).1.1, sE y), false) (128 * m + i) * X)) 2 = 0 := sumN_0 2 (fun i' _ => by rw [whW_off (by omega) (by omega) (by omega), whW_off (by omega) (by omega) (by omega), Nat.zero_mul, Nat.mul_zero])
      rw [a, c, sumN_pt (N - 1 - L) (k := m - L - 2) (by omega) (fun l _ ne => sumN_0 _ (fun o _ => sumN_0 _ (fun v _ => by rw [whW_off (by omega) (by omega) (by omega), Nat.zero_mul])))]
      have e : sumN (fun o => sumN (fun v => whW 128 n nd (L + (m - L - 2) + 2) (nst (nd k) (sB y (v / 2) (4 + v % 2) (xs o))) (128 * m + i) * (X * wcn y (m - L - 2) (xs o))) 4) wn = X * sumN (fun v => sumS (WS y) (fun o => ind (nst (nd k) (sB y (v / 2) (4 + v % 2) o) = nd i) * wcn y (m - L - 2) o)) 4 := by
        rw [← sumN_mul, sumN_comm]
        refine sumN_congr 4 (fun v _ => ?_)
        rw [sumS_E WE, ← sumN_mul]
        refine sumN_congr wn (fun o _ => ?_)
        rw [show L + (m - L - 2) + 2 = m from by omega, whW_at hj (by omega) hi, Nat.mul_left_comm]
      rw [e]
      unfold stN stf
      rw [if_neg (by omega), if_pos (by omega), if_neg (by omega), Nat.zero_add, Nat.zero_add]
      rfl
end
