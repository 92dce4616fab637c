/-- a node and a step behind it -/
def nst (t : Nd) (s : Nat) : Nd := ((imc t.1.1 s, thn t.1.2 s), t.2)
/-- a letter without a partner behind a node -/
noncomputable def hlf (y : Sy) (t t' : Nd) : Nat := sumN (fun l => ind (((sA y l t.1.1, sE y), true) = t')) 2 + ind (t.2 = false) * sumN (fun i => ind (((sA y (4 + i) t.1.1, sE y), false) = t')) 2
noncomputable def stN (y : Sy) (j : Nat) (t t' : Nd) : Nat := stf y (wcn y) j (fun s => ind (nst t s = t')) + (if j = 1 then hlf y t t' else 0)
noncomputable def ntb (y : Sy) : Nat → Nat → Nd → Nat
  | 0 => fun n t => if n = 0 then ind (t = ((s0 y, sE y), false)) else 0
  | k + 1 => fun n t => if n = k + 1 then sumN (fun l => sumS (NSt y) (fun t' => ntb y k l t' * stN y (k + 1 - l) t' t)) (k + 1) else ntb y k n t
/-- how many rows of a length come to a node -/
noncomputable def ncn (y : Sy) (n : Nat) (t : Nd) : Nat := ntb y n n t
theorem ntb_le {y : Sy} : ∀ k n t, n ≤ k → ntb y k n t = ncn y n t
  | 0, n, t, h => by rw [show n = 0 from by omega]; rfl
  | k + 1, n, t, h => by
    by_cases e : n = k + 1
    · rw [e]; rfl
    · have : ntb y (k + 1) n t = ntb y k n t := by
        show (if n = k + 1 then _ else _) = _
        rw [if_neg e]
      rw [this]; exact ntb_le k n t (by omega)
theorem ncn_0 {y : Sy} (t : Nd) : ncn y 0 t = ind (t = ((s0 y, sE y), false)) := by
  show (if (0 : Nat) = 0 then ind (t = ((s0 y, sE y), false)) else 0) = _
  rw [if_pos rfl]
theorem ncn_s {y : Sy} (hN : FinS (NSt y)) (k : Nat) (t : Nd) : ncn y (k + 1) t = sumN (fun l => sumS (NSt y) (fun t' => ncn y l t' * stN y (k + 1 - l) t' t)) (k + 1) := by
  show (if k + 1 = k + 1 then _ else _) = _
  rw [if_pos rfl]
  exact sumN_congr _ (fun l hl => sumS_congr hN (fun t' _ => by rw [ntb_le k l t' (by omega)]))
/-- how many rows of a length come to a code, with a letter open or not -/
noncomputable def gcn (y : Sy) (n c : Nat) (d : Bool) : Nat := sumS (NSt y) (fun t => ind (t.1.1 = c ∧ t.2 = d) * ncn y n t)
section
variable {y : Sy}
theorem grp (hN : FinS (NSt y)) (h8 : ∀ t, NSt y t → t.1.1 < 8) (N : Nd → Nat) (d : Bool) (ψ : Nat → Nat) : sumS (NSt y) (fun t => N t * (ind (t.2 = d) * ψ t.1.1)) = sumN (fun b => sumS (NSt y) (fun t => ind (t.1.1 = b ∧ t.2 = d) * N t) * ψ b) 8 := by
  have e : ∀ b, sumS (NSt y) (fun t => ind (t.1.1 = b ∧ t.2 = d) * N t) * ψ b = sumS (NSt y) (fun t => ind (t.1.1 = b ∧ t.2 = d) * N t * ψ b) := fun b => (sumS_mulr hN _ _).symm
  rw [sumN_congr 8 (fun b _ => e b), ← sumS_N hN]
  refine sumS_congr hN (fun t ht => ?_)
  rw [sumN_pt 8 (h8 t ht) (fun b _ ne => by rw [ind_f (fun g => ne g.1.symm), Nat.zero_mul, Nat.zero_mul])]
  rw [ind_and, ind_t rfl, Nat.one_mul, Nat.mul_comm (ind (t.2 = d)) (N t), Nat.mul_assoc]
theorem NSt_st {t : Nd} {s : Nat} (h : NSt y t) (hs : stpS y (WS y) s) : NSt y (nst t s) := NS_stp h hs
theorem gcn_0 (hN : FinS (NSt y)) (c : Nat) (d : Bool) : gcn y 0 c d = ind (c = s0 y ∧ d = false) := by
  unfold gcn
  rw [sumS_pt hN (a := ((s0 y, sE y), false)) (NS_0 y) (fun t _ ne => by rw [ncn_0, ind_f ne, Nat.mul_zero]), ncn_0, ind_t (P := _ = _) rfl, Nat.mul_one]
  exact ind_congr ⟨fun h => ⟨h.1.symm, h.2.symm⟩, fun h => ⟨h.1.symm, h.2.symm⟩⟩
/-- what one node gives to a code -/
theorem stN_c (hF : FinS (WS y)) (hN : FinS (NSt y)) {t' : Nd} (ht : NSt y t') (j c : Nat) (d : Bool) : sumS (NSt y) (fun t => ind (t.1.1 = c ∧ t.2 = d) * stN y j t' t) =
    ind (t'.2 = d) * stf y (wcn y) j (fun s => ind (imc t'.1.1 s = c)) + (if j = 1 then sumN (fun l => ind (sA y l t'.1.1 = c ∧ true = d)) 2 + ind (t'.2 = false) * sumN (fun i => ind (sA y (4 + i) t'.1.1 = c ∧ false = d)) 2 else 0) := by
  have e : ∀ t, ind (t.1.1 = c ∧ t.2 = d) * stN y j t' t = stf y (wcn y) j (fun s => ind (t.1.1 = c ∧ t.2 = d) * ind (nst t' s = t)) + ind (t.1.1 = c ∧ t.2 = d) * (if j = 1 then hlf y t' t else 0) := fun t => by
    unfold stN
    rw [Nat.mul_add, stf_mul hF]
  rw [sumS_congr hN (fun t _ => e t), sumS_add hN, stf_S hF hN]
  congr 1
  · rw [← stf_mul hF]
    refine stf_congr hF (fun s hs => ?_)
    rw [sumS_pt hN (NSt_st ht hs) (fun t _ ne => by rw [ind_f (P := nst t' s = t) (fun g => ne g.symm), Nat.mul_zero]), ind_t (P := nst t' s = nst t' s) rfl, Nat.mul_one]
    show ind (imc t'.1.1 s = c ∧ t'.2 = d) = _
    rw [ind_and, Nat.mul_comm]
  · by_cases g : j = 1
    · simp only [if_pos g]
      have e2 : ∀ t, ind (t.1.1 = c ∧ t.2 = d) * hlf y t' t = sumN (fun l => ind (t.1.1 = c ∧ t.2 = d) * ind (((sA y l t'.1.1, sE y), true) = t)) 2 + ind (t'.2 = false) * sumN (fun i => ind (t.1.1 = c ∧ t.2 = d) * ind (((sA y (4 + i) t'.1.1, sE y), false) = t)) 2 := fun t => by
        unfold hlf
        rw [Nat.mul_add, sumN_mul, sumN_mul, Nat.mul_left_comm]
      rw [sumS_congr hN (fun t _ => e2 t), sumS_add hN, sumS_mul hN, sumS_N hN]
      congr 1
      · refine sumN_congr 2 (fun l hl => ?_)
        rw [sumS_pt hN (a := ((sA y l t'.1.1, sE y), true)) (NS_open ht hl) (fun t _ ne => by rw [ind_f (P := _ = t) (fun g => ne g.symm), Nat.mul_zero]), ind_t (P := ((sA y l t'.1.1, sE y), true) = ((sA y l t'.1.1, sE y), true)) rfl, Nat.mul_one]
      · by_cases g2 : t'.2 = false
        · rw [sumS_N hN]
          congr 1
          refine sumN_congr 2 (fun i hi => ?_)
          have hc : NSt y ((sA y (4 + i) t'.1.1, sE y), false) := NS_close (by have h2 : NS y t'.1.1 t'.1.2 t'.2 := ht; rw [g2] at h2; exact h2) (by omega) (by omega)
          rw [sumS_pt hN (a := ((sA y (4 + i) t'.1.1, sE y), false)) hc (fun t _ ne => by rw [ind_f (P := _ = t) (fun g => ne g.symm), Nat.mul_zero]), ind_t (P := ((sA y (4 + i) t'.1.1, sE y), false) = ((sA y (4 + i) t'.1.1, sE y), false)) rfl, Nat.mul_one]
        · rw [ind_f g2, Nat.zero_mul, Nat.zero_mul]
    · simp only [if_neg g, Nat.mul_zero]
      exact sumS_0 hN (fun _ _ => rfl)
noncomputable def hfG (y : Sy) (k c : Nat) (d : Bool) : Nat := sumN (fun b => if d = true then (gcn y k b true + gcn y k b false) * sumN (fun l => ind (sA y l b = c)) 2 else gcn y k b false * sumN (fun i => ind (sA y (4 + i) b = c)) 2) 8
theorem gcn_s (hF : FinS (WS y)) (hN : FinS (NSt y)) (h8 : ∀ t, NSt y t → t.1.1 < 8) (k c : Nat) (d : Bool) : gcn y (k + 1) c d = sumN (fun l => sumN (fun b => gcn y l b d * stf y (wcn y) (k + 1 - l) (fun s => ind (imc b s = c))) 8) (k + 1) + hfG y k c d := by
  have e1 : gcn y (k + 1) c d = sumN (fun l => sumS (NSt y) (fun t' => ncn y l t' * sumS (NSt y) (fun t => ind (t.1.1 = c ∧ t.2 = d) * stN y (k + 1 - l) t' t))) (k + 1) := by
    unfold gcn
    have : ∀ t, ind (t.1.1 = c ∧ t.2 = d) * ncn y (k + 1) t = sumN (fun l => sumS (NSt y) (fun t' => ncn y l t' * (ind (t.1.1 = c ∧ t.2 = d) * stN y (k + 1 - l) t' t))) (k + 1) := fun t => by
      rw [ncn_s hN, ← sumN_mul]
      refine sumN_congr _ (fun l _ => ?_)
      rw [← sumS_mul hN]
      exact sumS_congr hN (fun t' _ => by rw [Nat.mul_left_comm])
    rw [sumS_congr hN (fun t _ => this t), sumS_N hN]
    refine sumN_congr _ (fun l _ => ?_)
    rw [sumS_comm hN hN]
    exact sumS_congr hN (fun t' _ => by rw [sumS_mul hN])
  rw [e1]
  have e2 : ∀ l, l < k + 1 → sumS (NSt y) (fun t' => ncn y l t' * sumS (NSt y) (fun t => ind (t.1.1 = c ∧ t.2 = d) * stN y (k + 1 - l) t' t)) = sumN (fun b => gcn y l b d * stf y (wcn y) (k + 1 - l) (fun s => ind (imc b s = c))) 8 + (if l = k then hfG y k c d else 0) := fun l hl => by
    have : ∀ t', NSt y t' → ncn y l t' * sumS (NSt y) (fun t => ind (t.1.1 = c ∧ t.2 = d) * stN y (k + 1 - l) t' t) = ncn y l t' * (ind (t'.2 = d) * (fun b => stf y (wcn y) (k + 1 - l) (fun s => ind (imc b s = c))) t'.1.1) + (if l = k then ncn y l t' * (sumN (fun l => ind (sA y l t'.1.1 = c ∧ true = d)) 2 + ind (t'.2 = false) * sumN (fun i => ind (sA y (4 + i) t'.1.1 = c ∧ false = d)) 2) else 0) := fun t' ht => by
      rw [stN_c hF hN ht, Nat.mul_add]
      congr 1
      by_cases g : l = k
      · rw [if_pos g, if_pos (by omega)]
      · rw [if_neg g, if_neg (by omega), Nat.mul_zero]
    rw [sumS_congr hN this, sumS_add hN, grp hN h8 (ncn y l) d (fun b => stf y (wcn y) (k + 1 - l) (fun s => ind (imc b s = c)))]
    congr 1
    by_cases g : l = k
    · simp only [if_pos g]
      subst g
      unfold hfG
      cases d with
      | true =>
        have z : ∀ t', ncn y l t' * (sumN (fun l => ind (sA y l t'.1.1 = c ∧ true = true)) 2 + ind (t'.2 = false) * sumN (fun i => ind (sA y (4 + i) t'.1.1 = c ∧ false = true)) 2) = ncn y l t' * (ind (t'.2 = true) * (fun b => sumN (fun l => ind (sA y l b = c)) 2) t'.1.1) + ncn y l t' * (ind (t'.2 = false) * (fun b => sumN (fun l => ind (sA y l b = c)) 2) t'.1.1) := fun t' => by
          have z1 : sumN (fun i => ind (sA y (4 + i) t'.1.1 = c ∧ false = true)) 2 = 0 := sumN_0 2 (fun i _ => ind_f (fun g => absurd g.2 (by decide)))
          have z2 : sumN (fun l => ind (sA y l t'.1.1 = c ∧ true = true)) 2 = sumN (fun l => ind (sA y l t'.1.1 = c)) 2 := sumN_congr 2 (fun l _ => ind_congr ⟨fun g => g.1, fun g => ⟨g, rfl⟩⟩)
          rw [z1, z2, Nat.mul_zero, Nat.add_zero]
          dsimp only
          cases t'.2 with
          | true => rw [ind_t (P := true = true) rfl, ind_f (P := true = false) (by decide), Nat.one_mul, Nat.zero_mul, Nat.mul_zero, Nat.add_zero]
          | false => rw [ind_t (P := false = false) rfl, ind_f (P := false = true) (by decide), Nat.one_mul, Nat.zero_mul, Nat.mul_zero, Nat.zero_add]
        rw [sumS_congr hN (fun t' _ => z t'), sumS_add hN, grp hN h8 (ncn y l) true (fun b => sumN (fun l => ind (sA y l b = c)) 2), grp hN h8 (ncn y l) false (fun b => sumN (fun l => ind (sA y l b = c)) 2), ← sumN_add]
        refine sumN_congr 8 (fun b _ => ?_)
        rw [if_pos rfl, Nat.add_mul]; rfl
      | false =>
        have z : ∀ t', ncn y l t' * (sumN (fun l => ind (sA y l t'.1.1 = c ∧ true = false)) 2 + ind (t'.2 = false) * sumN (fun i => ind (sA y (4 + i) t'.1.1 = c ∧ false = false)) 2) = ncn y l t' * (ind (t'.2 = false) * (fun b => sumN (fun i => ind (sA y (4 + i) b = c)) 2) t'.1.1) := fun t' => by
          have z1 : sumN (fun l => ind (sA y l t'.1.1 = c ∧ true = false)) 2 = 0 := sumN_0 2 (fun i _ => ind_f (fun g => absurd g.2 (by decide)))
          have z2 : sumN (fun i => ind (sA y (4 + i) t'.1.1 = c ∧ false = false)) 2 = sumN (fun i => ind (sA y (4 + i) t'.1.1 = c)) 2 := sumN_congr 2 (fun l _ => ind_congr ⟨fun g => g.1, fun g => ⟨g, rfl⟩⟩)
          rw [z1, z2, Nat.zero_add]
        rw [sumS_congr hN (fun t' _ => z t'), grp hN h8 (ncn y l) false (fun b => sumN (fun i => ind (sA y (4 + i) b = c)) 2)]
        refine sumN_congr 8 (fun b _ => ?_)
        rw [if_neg (by decide)]; rfl
    · simp only [if_neg g]
      exact sumS_0 hN (fun _ _ => rfl)
  rw [sumN_congr _ e2, sumN_add]
  congr 1
  rw [sumN_pt (k + 1) (k := k) (by omega) (fun i _ ne => if_neg ne), if_pos rfl]
theorem gcn_no {n c : Nat} {d : Bool} (hN : FinS (NSt y)) (h : ∀ x d, ¬ NS y c x d) : gcn y n c d = 0 := sumS_0 hN (fun t ht => by
  rw [ind_f (fun g => ?_), Nat.zero_mul]
  have : NS y t.1.1 t.1.2 t.2 := ht
  rw [g.1] at this
  exact h _ _ this)
theorem ncn_tot (hN : FinS (NSt y)) (h8 : ∀ t, NSt y t → t.1.1 < 8) (n : Nat) (ψ : Nat → Nat) : sumS (NSt y) (fun t => ncn y n t * ψ t.1.1) = sumN (fun b => (gcn y n b false + gcn y n b true) * ψ b) 8 := by
  have e : ∀ t : Nd, ncn y n t * ψ t.1.1 = ncn y n t * (ind (t.2 = false) * ψ t.1.1) + ncn y n t * (ind (t.2 = true) * ψ t.1.1) := fun t => by
    cases t.2 with
    | true => rw [ind_t (P := true = true) rfl, ind_f (P := true = false) (by decide), Nat.one_mul, Nat.zero_mul, Nat.mul_zero, Nat.zero_add]
    | false => rw [ind_t (P := false = false) rfl, ind_f (P := false = true) (by decide), Nat.one_mul, Nat.zero_mul, Nat.mul_zero, Nat.add_zero]
  rw [sumS_congr hN (fun t _ => e t), sumS_add hN, grp hN h8, grp hN h8, ← sumN_add]
  exact sumN_congr 8 (fun b _ => by rw [Nat.add_mul]; rfl)
end
