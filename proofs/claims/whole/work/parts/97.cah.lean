theorem imc_one {c x : Nat} (hc : c < 8) (hx : x < 512) : imc c x = img c x := by
  show img c x + 8 * img (c / 8) (x / 512) = img c x
  rw [show c / 8 = 0 from by omega, show x / 512 = 0 from by omega, img_0]; rfl
theorem cm_bas {n m t : Nat} {w : Nat → Nat} (W : WfR n m t w) (lt : Nat → Nat) : ∀ k, cmA w n lt k = img (cmA w n lt (bas lt k)) (snA w n lt k)
  | 0 => by
    show 1 = img 1 (idn n)
    rcases (show n = 1 ∨ n = 2 ∨ n = 3 by have := W.1; have := W.2.1; omega) with e | e | e <;> subst e <;> decide
  | k + 1 => by
    have ih := cm_bas W lt k
    have ae : ∀ c l, img (img c (aln w l)) (idn n) = img c (aln w l) := fun c l => (Sn_img (Rn_aln W.2.2.2.2.2.1 l)).2
    rw [bas_succ]
    by_cases h2 : lt k < 2
    · rw [if_pos h2, (rsm_open h2).1, (rsm_open h2).2, ae]
    · rw [if_neg h2]
      by_cases h4 : lt k < 4
      · rw [if_pos h4, (rsm_plain (by omega) h4).1, (rsm_plain (by omega) h4).2, ← img_thn, ← ih]
      · rw [if_neg h4]
        cases e : stk lt k with
        | nil => simp only; rw [(rsm_free (by omega) e).1, (rsm_free (by omega) e).2, ae]
        | cons o r =>
          simp only
          have so := stk_cons lt k o r e
          have ih2 := cm_bas W lt o
          rw [(rsm_close (by omega) e).1, (rsm_close (by omega) e).2, ← img_thn, ← ih2]
  termination_by k => k
theorem NS_u {y : Sy} (hok : SyOk y) {c x u : Nat} {d : Bool} (h : NS y c x d) (hu : WS y u) : NS y (imc c u) (thn x u) d := by
  have hx := WS_R2 hok (NS_WS hok h)
  have hc := NS_S2 hok h
  exact WS_ind (Q := fun u => NS y (imc c u) (thn x u) d) (by rw [hc.2, hx.2.2]; exact h) (fun u s _ hu hs _ => by rw [← imc_thn, ← thn_assoc]; exact NS_stp hu hs) hu
