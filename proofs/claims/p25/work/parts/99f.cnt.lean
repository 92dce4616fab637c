/-- a sum over the steps of a length: the plain letters, and whole rows within letters -/
noncomputable def stf (y : Sy) (W : Nat → Nat → Nat) (j : Nat) (φ : Nat → Nat) : Nat :=
  (if j = 1 then sumN (fun i => φ (sP y (2 + i))) 2 else 0) + (if 2 ≤ j then sumN (fun v => sumS (WS y) (fun o => φ (sB y (v / 2) (4 + v % 2) o) * W (j - 2) o)) 4 else 0)
noncomputable def wtb (y : Sy) : Nat → Nat → Nat → Nat
  | 0 => fun n x => if n = 0 ∧ x = sE y then 1 else 0
  | k + 1 => fun n x => if n = k + 1 then sumN (fun l => sumS (WS y) (fun u => wtb y k l u * stf y (wtb y k) (k + 1 - l) (fun s => ind (thn u s = x)))) (k + 1) else wtb y k n x
/-- how many whole rows of a length do so -/
noncomputable def wcn (y : Sy) (n x : Nat) : Nat := wtb y n n x
theorem wtb_le {y : Sy} : ∀ k n x, n ≤ k → wtb y k n x = wcn y n x
  | 0, n, x, h => by rw [show n = 0 from by omega]; rfl
  | k + 1, n, x, h => by
    by_cases e : n = k + 1
    · rw [e]; rfl
    · have : wtb y (k + 1) n x = wtb y k n x := by
        show (if n = k + 1 then _ else _) = _
        rw [if_neg e]
      rw [this]; exact wtb_le k n x (by omega)
theorem stf_W {y : Sy} (hF : FinS (WS y)) {W W' : Nat → Nat → Nat} {j : Nat} (h : ∀ n o, n + 2 ≤ j → W n o = W' n o) (φ : Nat → Nat) : stf y W j φ = stf y W' j φ := by
  unfold stf
  by_cases g : 2 ≤ j
  · rw [if_pos g, if_pos g]
    congr 1
    exact sumN_congr 4 (fun v _ => sumS_congr hF (fun o _ => by rw [h _ _ (by omega)]))
  · rw [if_neg g, if_neg g]
theorem wcn_0 {y : Sy} (x : Nat) : wcn y 0 x = if x = sE y then 1 else 0 := by
  show (if 0 = 0 ∧ x = sE y then 1 else 0) = _
  simp
theorem wcn_s {y : Sy} (hF : FinS (WS y)) (k x : Nat) : wcn y (k + 1) x = sumN (fun l => sumS (WS y) (fun u => wcn y l u * stf y (wcn y) (k + 1 - l) (fun s => ind (thn u s = x)))) (k + 1) := by
  show (if k + 1 = k + 1 then _ else _) = _
  rw [if_pos rfl]
  refine sumN_congr _ (fun l hl => sumS_congr hF (fun u _ => ?_))
  rw [wtb_le k l u (by omega), stf_W hF (fun n o hn => wtb_le k n o (by omega))]
section
variable {y : Sy}
theorem stf_congr (hF : FinS (WS y)) {W : Nat → Nat → Nat} {j : Nat} {φ ψ : Nat → Nat} (h : ∀ s, stpS y (WS y) s → φ s = ψ s) : stf y W j φ = stf y W j ψ := by
  unfold stf
  congr 1
  · split
    · exact sumN_congr 2 (fun i hi => by
        rcases (show i = 0 ∨ i = 1 by omega) with e | e
        · subst e; exact h _ (.inl rfl)
        · subst e; exact h _ (.inr (.inl rfl)))
    · rfl
  · split
    · exact sumN_congr 4 (fun v hv => (sumS_congr hF (fun o ho => by rw [h _ (.inr (.inr ⟨_, _, o, by omega, by omega, by omega, ho, rfl⟩))])))
    · rfl
theorem stf_mul (hF : FinS (WS y)) (W : Nat → Nat → Nat) (j c : Nat) (φ : Nat → Nat) : stf y W j (fun s => c * φ s) = c * stf y W j φ := by
  unfold stf
  rw [Nat.mul_add]
  congr 1
  · split
    · rw [sumN_mul]
    · rw [Nat.mul_zero]
  · split
    · rw [← sumN_mul]
      refine sumN_congr 4 (fun v _ => ?_)
      rw [← sumS_mul hF]
      exact sumS_congr hF (fun o _ => by rw [Nat.mul_assoc])
    · rw [Nat.mul_zero]
theorem stf_S (hF : FinS (WS y)) {α : Type} {T : α → Prop} (hT : FinS T) (W : Nat → Nat → Nat) (j : Nat) (φ : α → Nat → Nat) : sumS T (fun t => stf y W j (φ t)) = stf y W j (fun s => sumS T (fun t => φ t s)) := by
  unfold stf
  rw [sumS_add hT]
  congr 1
  · split
    · rw [sumS_N hT]
    · exact sumS_0 hT (fun _ _ => rfl)
  · split
    · rw [sumS_N hT]
      refine sumN_congr 4 (fun v _ => ?_)
      rw [sumS_comm hT hF]
      refine (sumS_congr hF (fun o _ => ?_))
      rw [sumS_mulr hT]
    · exact sumS_0 hT (fun _ _ => rfl)
/-- how many steps of a length are this one -/
noncomputable def scn (y : Sy) (j s : Nat) : Nat := stf y (wcn y) j (fun s' => ind (s' = s))
theorem scn_sum (hF : FinS (WS y)) (hT : FinS (stpS y (WS y))) (j : Nat) (φ : Nat → Nat) : sumS (stpS y (WS y)) (fun s => φ s * scn y j s) = stf y (wcn y) j φ := by
  unfold scn
  rw [sumS_congr hT (fun s _ => (stf_mul hF (wcn y) j (φ s) (fun s' => ind (s' = s))).symm), stf_S hF hT]
  refine stf_congr hF (fun s hs => ?_)
  rw [sumS_pt hT hs (fun x _ ne => by rw [ind_f (fun e => ne e.symm), Nat.mul_zero]), ind_t rfl, Nat.mul_one]
end
