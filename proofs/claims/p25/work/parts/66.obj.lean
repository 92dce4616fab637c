theorem c_isR {x : Int32} {K : Int32 → Prop} (h1 : ∀ r, r < 2 → x = nI r → K (nI 1)) (h0 : (∀ r, r < 2 → x ≠ nI r) → K (nI 0)) : wX11_isReader x K := by
  unfold wX11_isReader
  refine ⟨fun g => h1 0 (by omega) g, fun g0 => ⟨fun g => h1 1 (by omega) g, fun g1 => h0 (fun r hr => ?_)⟩⟩
  rcases (show r = 0 ∨ r = 1 by omega) with e | e <;> subst e
  · exact g0
  · exact g1
theorem c_chosen {r : Nat} (hr : r < 2) {A B : Prop} (h0 : r = 0 → B) (h1 : r = 1 → A) : wX11_chosen (nI r) A B := by
  unfold wX11_chosen
  rcases (show r = 0 ∨ r = 1 by omega) with e | e <;> subst e
  · exact ⟨fun _ => h0 rfl, fun g => absurd rfl g⟩
  · exact ⟨fun g => absurd g (by decide), fun _ => h1 rfl⟩
theorem q_nm1 {s : Nat} (h : s ≤ 160) : nI s ≠ -1 := by
  intro g
  have := congrArg Int32.toInt g
  rw [nI_toInt (by omega)] at this
  exact absurd this (by rw [show (-1 : Int32).toInt = -1 from by decide]; omega)
theorem MvBad_le {tb : Nat → Nat} {z n m i s : Nat} (hi : i ≤ z) (h : MvBad tb z n m i s) : s ≤ z := by
  have he0 := (tkE_spec tb hi).2
  have he1 := (tkE_spec tb he0).2
  have he2 := (tkE_spec tb he1).2
  have he3 := (tkE_spec tb he2).2
  have he4 := (tkE_spec tb he3).2
  have S : ∀ q, q ≤ z → tkS tb z q ≤ z := fun q hq => (tkS_spec tb hq).2
  rcases h with ⟨_, e⟩ | ⟨_, i1, e1, ⟨_, e⟩ | ⟨_, c, i2, _, e2, T⟩⟩
  · subst e; exact S _ hi
  · subst e1; subst e; exact S _ he0
  · subst e1; subst e2
    rcases T with ⟨_, ⟨_, e⟩ | ⟨_, i3, e3, ⟨_, e⟩ | ⟨_, _, i4, e4, ⟨_, e⟩ | ⟨_, i5, e5, _, e⟩⟩⟩⟩ | ⟨_, ⟨_, e⟩ | ⟨_, i3, e3, ⟨_, _, e⟩ | ⟨_, i4, e4, ⟨_, e⟩ | ⟨_, i5, e5, _, e⟩⟩⟩⟩
    · subst e; exact S _ he1
    · subst e3; subst e; exact S _ he2
    · subst e3; subst e4; subst e; exact S _ he3
    · subst e3; subst e4; subst e5; subst e; exact S _ he4
    · subst e; exact S _ he1
    · subst e3; subst e; exact S _ he2
    · subst e3; subst e4; subst e; exact S _ he3
    · subst e3; subst e4; subst e5; subst e; exact S _ he4
theorem FB_le {tb : Nat → Nat} {z n m : Nat} : ∀ k i s, i ≤ z → FB tb z n m k i s → s ≤ z
  | 0, _, _, _, h => h.elim
  | k + 1, i, s, hi, h => by
    rcases h with h | ⟨p, a, c, kk, b, h1, h2, h3⟩
    · exact MvBad_le hi h
    · have hp := MvOk_end hi h1
      rcases h3 with ⟨_, e⟩ | ⟨_, ⟨_, e⟩ | ⟨_, h3⟩⟩
      · omega
      · omega
      · exact FB_le k _ _ (tkE_spec tb hp).2 h3
section
variable {tb : Nat → Nat} {z n0 m0 t0 n1 m1 t1 : Nat} {w0 w1 : Nat → Nat}
theorem c_fault (hz : z ≤ 160) (hb : ∀ j, tb j < 256) (W0 : WfR n0 m0 t0 w0) (W1 : WfR n1 m1 t1 w1) {x c0 c1 s0 s1 f l mk t : Int32} {A0 A1 : Nat → Int32} {K : Int32 → Int32 → (Nat → Int32) → Int32 → (Nat → Int32) → Int32 → Int32 → Int32 → Int32 → Int32 → Int32 → Prop}
    (h2 : (∀ r, r < 2 → x ≠ nI r) → ∀ u1 u2 u3 u4 u5 u6, K (-nI 2) c0 A0 c1 A1 u1 u2 u3 u4 u5 u6)
    (hB : ∀ r s, r < 2 → x = nI r → FB tb z (sel r n0 n1) (sel r m0 m1) 16 0 s → ∀ u1 u2 u3 u4 u5 u6, K (nI s) c0 A0 c1 A1 u1 u2 u3 u4 u5 u6)
    (hO : ∀ r L, r < 2 → x = nI r → FO tb z (sel r n0 n1) (sel r m0 m1) 16 0 L → ∀ u1 u2 u3 u4 u5 u6, K (-nI 1) c0 A0 c1 A1 u1 u2 u3 u4 u5 u6) :
    wX11_fault x (nI n0) (nI m0) c0 A0 (nI n1) (nI m1) c1 A1 (nI z) s0 s1 f l mk t (fun j => nI (tb j)) K := by
  unfold wX11_fault
  refine c_isR (fun r hr er => ?_) (fun g => ⟨fun _ => h2 g _ _ _ _ _ _, fun g => absurd rfl g⟩)
  subst er
  refine ⟨fun g => absurd g (by decide), fun _ => c_chosen hr (fun e => ?_) (fun e => ?_)⟩
  · subst e
    exact q_ff0 hz hb W0.2.1 W0.2.2.2.1 (fun s hs _ _ _ _ _ _ => hB 0 s (by omega) rfl hs _ _ _ _ _ _) (fun L hL _ _ _ _ _ _ => hO 0 L (by omega) rfl hL _ _ _ _ _ _)
  · subst e
    exact q_ff0 hz hb W1.2.1 W1.2.2.2.1 (fun s hs _ _ _ _ _ _ => hB 1 s (by omega) rfl hs _ _ _ _ _ _) (fun L hL _ _ _ _ _ _ => hO 1 L (by omega) rfl hL _ _ _ _ _ _)
theorem c_moves (hz : z ≤ 160) (hb : ∀ j, tb j < 256) (W0 : WfR n0 m0 t0 w0) (W1 : WfR n1 m1 t1 w1) {x c0 c1 s0 s1 f l mk t : Int32} {K : Int32 → Int32 → (Nat → Int32) → Int32 → (Nat → Int32) → Int32 → Int32 → Int32 → Int32 → Int32 → Int32 → Int32 → Prop}
    (h2 : (∀ r, r < 2 → x ≠ nI r) → ∀ u1 u2 u3 u4 u5 u6, K (-nI 2) c0 (fun j => nI (w0 j)) c1 (fun j => nI (w1 j)) (nI z) u1 u2 u3 u4 u5 u6)
    (hB : ∀ r s, r < 2 → x = nI r → FB tb z (sel r n0 n1) (sel r m0 m1) 16 0 s → ∀ u1 u2 u3 u4 u5 u6, K (-nI 4) c0 (fun j => nI (w0 j)) c1 (fun j => nI (w1 j)) (nI z) u1 u2 u3 u4 u5 u6)
    (hO : ∀ r L, r < 2 → x = nI r → FO tb z (sel r n0 n1) (sel r m0 m1) 16 0 L → WfR n0 m0 t0 (sel r (apW w0 L) w0) → WfR n1 m1 t1 (sel r w1 (apW w1 L)) → ∀ u1 u2 u3 u4 u5 u6, K (nI (sumN (fun j => pc9 (apW (sel r w0 w1) L j)) 18)) (sel r (c0 + nI L.length) c0) (fun j => nI (sel r (apW w0 L) w0 j)) (sel r c1 (c1 + nI L.length)) (fun j => nI (sel r w1 (apW w1 L) j)) (nI 0) u1 u2 u3 u4 u5 u6) :
    wX11_moves x (nI n0) (nI m0) c0 (fun j => nI (w0 j)) (nI n1) (nI m1) c1 (fun j => nI (w1 j)) (nI z) s0 s1 f l mk t (fun j => nI (tb j)) K := by
  unfold wX11_moves
  refine c_isR (fun r hr er => ?_) (fun g => ⟨fun _ => h2 g _ _ _ _ _ _, fun g => absurd rfl g⟩)
  subst er
  refine ⟨fun g => absurd g (by decide), fun _ => c_chosen hr (fun e => ?_) (fun e => ?_)⟩
  · subst e
    refine q_ff0 hz hb W0.2.1 W0.2.2.2.1 (fun s hs _ _ _ _ _ _ => ⟨fun g => absurd g (q_nm1 (by have := FB_le _ _ _ (Nat.zero_le _) hs; omega)), fun _ => hB 0 s (by omega) rfl hs _ _ _ _ _ _⟩) (fun L hL _ _ _ _ _ _ => ⟨fun _ => ?_, fun g => absurd rfl g⟩)
    refine q_ff1 hz hb W0 hL (fun W' _ _ _ _ _ _ => ?_)
    unfold wX8_empty
    exact q_moveCount (fun j => (W'.2.2.2.2.2.1 j).1) (hO 0 L (by omega) rfl hL W' W1 _ _ _ _ _ _)
  · subst e
    refine q_ff0 hz hb W1.2.1 W1.2.2.2.1 (fun s hs _ _ _ _ _ _ => ⟨fun g => absurd g (q_nm1 (by have := FB_le _ _ _ (Nat.zero_le _) hs; omega)), fun _ => hB 1 s (by omega) rfl hs _ _ _ _ _ _⟩) (fun L hL _ _ _ _ _ _ => ⟨fun _ => ?_, fun g => absurd rfl g⟩)
    refine q_ff1 hz hb W1 hL (fun W' _ _ _ _ _ _ => ?_)
    unfold wX8_empty
    exact q_moveCount (fun j => (W'.2.2.2.2.2.1 j).1) (hO 1 L (by omega) rfl hL W0 W' _ _ _ _ _ _)
end
