theorem iL_m2 : (-2 : Int64) = iL (-2) := by decide
theorem iL_m3 : (-3 : Int64) = iL (-3) := by decide
theorem iL_m4 : (-4 : Int64) = iL (-4) := by decide
theorem iL_m1 : (-1 : Int64) = iL (-1) := by decide
section
variable {tb : Nat → Nat} {z i : Nat}
theorem q_next (hz : z ≤ 160) (hb : ∀ j, tb j < 256) (hi : i ≤ z) {a : Int32} {b : Int64} {c d : Int32} {K : Int32 → Int32 → Int64 → Int32 → Int32 → Prop}
    (h : ∀ dg, K (nI (tkE tb z i)) (nI (tkS tb z i)) (iL (tz tb z i)) dg (nI (nz tb z i))) : wX12_nextToken (nI z) (nI i) a b c d (fun j => nI (tb j)) K := by
  unfold wX12_nextToken
  intro E hE
  have hS := tkS_spec tb hi
  have hN := tkN_spec tb hS.2
  have main : E (nI (tkS tb z i)) := by
    refine hE _ ?_
    have hbs := hb (tkS tb z i)
    obtain ⟨s, es⟩ : ∃ s, s = tkS tb z i := ⟨_, rfl⟩
    obtain ⟨e, ee⟩ : ∃ e, e = tkE tb z i := ⟨_, rfl⟩
    have eN : e = tkN tb z s := by rw [ee, es]; rfl
    have hz2 : tz tb z i = if z ≤ s then -2 else if kd (tb s) = 1 then (if e - s ≤ 9 then (wvN tb s (e - s) : Int) else -4) else if kd (tb s) = 2 then (if e - s = 1 then -1 else -4) else if tb s = 59 then -3 else -4 := by rw [es, ee]; rfl
    have hn2 : nz tb z i = if z ≤ s then 0 else if kd (tb s) = 2 then tb (e - 1) - 48 else 0 := by rw [es, ee]; rfl
    rw [hz2, hn2, ← es, ← ee] at h
    rw [← es] at hS hN hbs ⊢
    rw [← eN] at hN
    refine ⟨fun g => ?_, fun g => ?_⟩
    · rw [q_eq (by omega) (by omega)] at g
      rw [if_pos (show z ≤ s by omega), if_pos (show z ≤ s by omega)] at h
      have : e = s := by rw [eN]; unfold tkN; rw [if_pos (by omega)]
      rw [this] at h
      exact h _
    · rw [q_eq (by omega) (by omega)] at g
      have hsz : s < z := by omega
      rw [if_neg (show ¬ z ≤ s by omega), if_neg (show ¬ z ≤ s by omega)] at h
      have hlt := hN.2.2 hsz
      rw [q_in (by omega), q_cl (by omega)]
      refine ⟨by omega, q_in3 (fun g1 g2 => ?_) (fun g1 => ?_)⟩
      · rw [show (97 : Int32) = nI 97 from rfl, q_lt (by omega) (by omega)] at g1
        rw [show (122 : Int32) = nI 122 from rfl, q_lt (by omega) (by omega)] at g2
        have hk : kd (tb s) = 1 := kd1.2 ⟨by omega, by omega⟩
        rw [if_pos hk, if_neg (show ¬ kd (tb s) = 2 by omega)] at h
        refine ⟨fun g => absurd g (by decide), fun _ => ?_⟩
        have hall : ∀ j, s ≤ j → j < e → 97 ≤ tb j ∧ tb j ≤ 122 := fun j h1 h2 => by
          have := tkN_kd tb hsz (by omega) j h1 (by omega)
          rw [hk] at this; exact kd1.1 this
        intro E2 hE2
        unfold wX12_nextToken_L101
        intro P hP
        refine q_cnt (Q := fun p => s ≤ p → P (nI p) (if p - s ≤ 9 then iL (wvN tb s (p - s)) else iL (-4))) (N := e) ?_ ?_ s (by omega) (Nat.le_refl _) |> (fun f => by rw [Nat.sub_self, if_pos (by omega)] at f; exact f)
        · intro _
          have fin : E2 (nI e) (if e - s ≤ 9 then iL (wvN tb s (e - s)) else iL (-4)) := by
            refine hE2 _ _ ?_
            rw [q_subN (by omega), show (9 : Int32) = nI 9 from rfl, q_le (by omega) (by omega)]
            refine ⟨fun g => ?_, fun g => ?_⟩
            · rw [if_pos g] at h ⊢; exact h _
            · rw [if_neg g] at h; rw [iL_m4]; exact h _
          refine hP _ _ ?_
          rw [q_le (by omega) (by omega)]
          refine ⟨fun _ => fin, fun g => ?_⟩
          have hbe := hb e
          rw [q_in (by omega), q_cl (by omega)]
          refine ⟨by omega, q_in3 (fun g1 g2 => ?_) (fun g1 => ⟨fun _ => fin, fun g => absurd rfl g⟩)⟩
          exfalso
          rw [show (97 : Int32) = nI 97 from rfl, q_lt (by omega) (by omega)] at g1
          rw [show (122 : Int32) = nI 122 from rfl, q_lt (by omega) (by omega)] at g2
          have := (scan_spec (fun j => kd (tb j) == kd (tb s)) z (s + 1) (by omega)).2.2.2
          have e3 : e = scan (fun j => kd (tb j) == kd (tb s)) z (s + 1) := by rw [eN]; unfold tkN; rw [if_neg (by omega), if_neg (by omega)]
          rw [← e3] at this
          have := this (by omega)
          rw [hk, kd1.2 ⟨by omega, by omega⟩] at this
          exact absurd this (by decide)
        · intro p hp ih hsp
          have hbp := hall p hsp hp
          have hbb := hb p
          refine hP _ _ ?_
          rw [q_le (by omega) (by omega)]
          refine ⟨fun g => absurd g (by omega), fun _ => ?_⟩
          rw [q_in (by omega), q_cl (by omega)]
          refine ⟨by omega, q_in3 (fun g1 g2 => ⟨fun g => absurd g (by decide), fun _ => ?_⟩) (fun g1 => ?_)⟩
          · rw [q_subN hsp, show (9 : Int32) = nI 9 from rfl, q_le (by omega) (by omega)]
            have e1 : nI p + (1 : Int32) = nI (p + 1) := nI_1 p
            have ih := ih (by omega)
            refine ⟨fun g => ?_, fun g => ?_⟩
            · intro x21 ex
              rw [if_neg (by omega)] at ih
              rw [ex, e1, iL_m4]; exact ih
            · rw [if_pos (by omega)] at ih ⊢
              refine ⟨by omega, ?_⟩
              intro x22 e22 x23 e23
              rw [e23, e1]
              have e22 : x22 = 27 * iL (wvN tb s (p - s)) + (nI (tb p)).toInt64 - 96 := e22
              have hw := wvN_b (tb := tb) (s := s) (p - s) (fun j hj => hall (s + j) (by omega) (by omega))
              have h27 : 27 ^ (p - s) ≤ 27 ^ 8 := Nat.pow_le_pow_right (by omega) (by omega)
              have h28 : (27 : Nat) ^ 8 = 282429536481 := by decide
              have e4 : wvN tb s (p + 1 - s) = 27 * wvN tb s (p - s) + (tb p - 96) := by
                rw [show p + 1 - s = (p - s) + 1 from by omega]
                show 27 * wvN tb s (p - s) + (tb (s + (p - s)) - 96) = _
                rw [show s + (p - s) = p from by omega]
              have : x22 = iL (wvN tb s (p + 1 - s)) := by
                rw [e22, e4, ← lN_iL (by omega), ← lN_iL (by omega), nI_l (by omega), show (27 : Int64) = lN 27 from rfl, show (96 : Int64) = lN 96 from rfl, lN_mul, lN_add, lN_sub (by omega)]
                congr 1; omega
              rw [this]; exact ih
          · exfalso
            rw [show (97 : Int32) = nI 97 from rfl, show (122 : Int32) = nI 122 from rfl, q_lt (by omega) (by omega), q_lt (by omega) (by omega)] at g1
            omega
      · have g1' : tb s < 97 ∨ 122 < tb s := by
          rw [show (97 : Int32) = nI 97 from rfl, show (122 : Int32) = nI 122 from rfl, q_lt (by omega) (by omega), q_lt (by omega) (by omega)] at g1
          exact g1
        have hk1 : kd (tb s) ≠ 1 := fun e => by have := kd1.1 e; omega
        rw [if_neg hk1] at h
        refine ⟨fun _ => ⟨by omega, ?_⟩, fun g => absurd rfl g⟩
        refine q_in3 (fun g3 g4 => ?_) (fun g3 => ?_)
        · rw [show (48 : Int32) = nI 48 from rfl, q_lt (by omega) (by omega)] at g3
          rw [show (57 : Int32) = nI 57 from rfl, q_lt (by omega) (by omega)] at g4
          have hk : kd (tb s) = 2 := kd2.2 ⟨by omega, by omega⟩
          rw [if_pos hk, if_pos hk] at h
          refine ⟨fun g => absurd g (by decide), fun _ => ?_⟩
          have hall : ∀ j, s ≤ j → j < e → 48 ≤ tb j ∧ tb j ≤ 57 := fun j h1 h2 => by
            have := tkN_kd tb hsz (by omega) j h1 (by omega)
            rw [hk] at this; exact kd2.1 this
          intro E2 hE2
          unfold wX12_nextToken_L241
          intro P hP
          refine q_cnt (Q := fun p => s ≤ p → P (nI p) (nI (p - s)) (nI (if p = s then 0 else tb (p - 1) - 48))) (N := e) ?_ ?_ s (by omega) (Nat.le_refl _) |> (fun f => by rw [Nat.sub_self, if_pos rfl] at f; exact f)
          · intro _
            have fin : E2 (nI e) (nI (e - s)) (nI (if e = s then 0 else tb (e - 1) - 48)) := by
              refine hE2 _ _ _ ?_
              rw [show (1 : Int32) = nI 1 from rfl, q_le (by omega) (by omega), if_neg (by omega)]
              refine ⟨fun g => ?_, fun g => ?_⟩
              · rw [if_pos (by omega)] at h; rw [iL_m1]; exact h _
              · rw [if_neg (by omega)] at h; rw [iL_m4]; exact h _
            refine hP _ _ _ ?_
            rw [q_le (by omega) (by omega)]
            refine ⟨fun _ => fin, fun g => ?_⟩
            have hbe := hb e
            rw [q_in (by omega), q_cl (by omega)]
            refine ⟨by omega, q_in3 (fun g1 g2 => ?_) (fun g1 => ⟨fun _ => fin, fun g => absurd rfl g⟩)⟩
            exfalso
            rw [show (48 : Int32) = nI 48 from rfl, q_lt (by omega) (by omega)] at g1
            rw [show (57 : Int32) = nI 57 from rfl, q_lt (by omega) (by omega)] at g2
            have := (scan_spec (fun j => kd (tb j) == kd (tb s)) z (s + 1) (by omega)).2.2.2
            have e3 : e = scan (fun j => kd (tb j) == kd (tb s)) z (s + 1) := by rw [eN]; unfold tkN; rw [if_neg (by omega), if_neg (by omega)]
            rw [← e3] at this
            have := this (by omega)
            rw [hk, kd2.2 ⟨by omega, by omega⟩] at this
            exact absurd this (by decide)
          · intro p hp ih hsp
            have hbp := hall p hsp hp
            have hbb := hb p
            refine hP _ _ _ ?_
            rw [q_le (by omega) (by omega)]
            refine ⟨fun g => absurd g (by omega), fun _ => ?_⟩
            rw [q_in (by omega), q_cl (by omega)]
            refine ⟨by omega, q_in3 (fun g1 g2 => ⟨fun g => absurd g (by decide), fun _ => ⟨by omega, ?_⟩⟩) (fun g1 => ?_)⟩
            · intro x13 e13 x14 e14 x15 e15
              have ih := ih (by omega)
              rw [if_neg (by omega), Nat.add_sub_cancel, show p + 1 - s = (p - s) + 1 from by omega] at ih
              rw [e13, e14, e15, show (48 : Int32) = nI 48 from rfl, q_subN (by omega), show nI (p - s) + (1 : Int32) = nI (p - s + 1) from nI_1 _, show nI p + (1 : Int32) = nI (p + 1) from nI_1 _]
              exact ih
            · exfalso
              rw [show (48 : Int32) = nI 48 from rfl, show (57 : Int32) = nI 57 from rfl, q_lt (by omega) (by omega), q_lt (by omega) (by omega)] at g1
              omega
        · have g3' : tb s < 48 ∨ 57 < tb s := by
            rw [show (48 : Int32) = nI 48 from rfl, show (57 : Int32) = nI 57 from rfl, q_lt (by omega) (by omega), q_lt (by omega) (by omega)] at g3
            exact g3
          have hk2 : kd (tb s) ≠ 2 := fun e => by have := kd2.1 e; omega
          have hk0 : kd (tb s) = 0 := by have := kd_lt (tb s); omega
          rw [if_neg hk2, if_neg hk2] at h
          have e1 : e = s + 1 := by rw [eN]; unfold tkN; rw [if_neg (by omega), if_pos hk0]
          rw [e1] at h
          refine ⟨fun _ => ⟨by omega, ?_⟩, fun g => absurd rfl g⟩
          rw [show (59 : Int32) = nI 59 from rfl, q_eq (by omega) (by omega)]
          have e1 : nI s + (1 : Int32) = nI (s + 1) := nI_1 s
          refine ⟨fun g x8 e8 => ?_, fun g x7 e7 => ?_⟩
          · rw [if_pos g] at h; rw [e8, e1, iL_m3]; exact h _
          · rw [if_neg g] at h; rw [e7, e1, iL_m4]; exact h _
  unfold wX12_nextToken_L0
  intro P hP
  have L : ∀ b, b ≤ z → tkS tb z b = tkS tb z i → P (nI b) := by
    refine q_cnt ?_ ?_
    · intro e
      refine hP _ ?_
      rw [q_le (by omega) (by omega)]
      unfold tkS at e
      rw [scan_ge (Nat.le_refl z)] at e
      exact ⟨fun _ => by show E (nI z); rw [e]; exact main, fun g => absurd (Nat.le_refl _) g⟩
    · intro b hb' ih e
      refine hP _ ?_
      have := hb b
      rw [q_le (by omega) (by omega), q_in (by omega), q_cl (by omega), show (32 : Int32) = nI 32 from rfl, q_eq (by omega) (by omega)]
      refine ⟨fun g => absurd g (by omega), fun _ => ⟨by omega, fun g x e26 => ?_, fun g => ?_⟩⟩
      · rw [e26, show nI b + (1 : Int32) = nI (b + 1) from nI_1 b]
        refine ih ?_
        rw [← e]; unfold tkS; rw [scan_t (i := b) hb' (by simp [g])]
      · unfold tkS at e
        rw [scan_f (by simp [g])] at e
        show E (nI b)
        rw [e]; exact main
  exact L i hi rfl
end
