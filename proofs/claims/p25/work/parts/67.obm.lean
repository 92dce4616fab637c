section
variable {tb : Nat → Nat} {z n0 m0 t0 n1 m1 t1 : Nat} {w0 w1 : Nat → Nat} {st mk tk pu go cl : Nat → Int32}
theorem MdOk_r (M : MdOk n0 m0 t0 w0 n1 m1 t1 w1 st mk tk pu go cl) {r : Nat} (hr : r < 2) : WfR (sel r n0 n1) (sel r m0 m1) (sel r t0 t1) (sel r w0 w1) ∧ st r = nI (sel r n0 n1) ∧ mk r = nI (sel r m0 m1) ∧ tk r = nI (sel r t0 t1) := by
  obtain ⟨W0, W1, _, s0, s1, k0, k1, a0, a1⟩ := M
  rcases (show r = 0 ∨ r = 1 by omega) with e | e <;> subst e
  · exact ⟨W0, s0, k0, a0⟩
  · exact ⟨W1, s1, k1, a1⟩
theorem m_fault (hz : z ≤ 160) (hb : ∀ j, tb j < 256) (M : MdOk n0 m0 t0 w0 n1 m1 t1 w1 st mk tk pu go cl) {x po a0 c0 d0 fa rm : Int32} {b0 : Int64} {rd : Nat → Int32} {K : Int32 → Int32 → Int32 → Int64 → Int32 → Int32 → Int32 → Int32 → (Nat → Int32) → Prop}
    (h2 : (∀ r, r < 2 → x ≠ nI r) → ∀ u1 u2 u3 u4 u5 u6 u7 rd', K (-nI 2) u1 u2 u3 u4 u5 u6 u7 rd')
    (hB : ∀ r s, r < 2 → x = nI r → FB tb z (sel r n0 n1) (sel r m0 m1) 16 0 s → ∀ u1 u2 u3 u4 u5 u6 u7 rd', K (nI s) u1 u2 u3 u4 u5 u6 u7 rd')
    (hO : ∀ r L, r < 2 → x = nI r → FO tb z (sel r n0 n1) (sel r m0 m1) 16 0 L → ∀ u1 u2 u3 u4 u5 u6 u7 rd', K (-nI 1) u1 u2 u3 u4 u5 u6 u7 rd') :
    wX12_fault x (nI z) po a0 b0 c0 d0 fa rm st mk (fun j => nI (tb j)) rd K := by
  unfold wX12_fault
  refine q_isR (fun r hr er => ?_) (fun g => ⟨fun _ => h2 g _ _ _ _ _ _ _ _, fun g => absurd rfl g⟩)
  subst er
  obtain ⟨W, hs, hm, _⟩ := MdOk_r M hr
  refine ⟨fun g => absurd g (by decide), fun _ => m_isRead hz hb hr W.1 W.2.1 W.2.2.1 W.2.2.2.1 hs hm (fun L hL rd' _ _ _ _ _ _ _ => ⟨fun g => absurd g (by decide), fun _ => hO r L hr rfl hL _ _ _ _ _ _ _ _⟩) (fun s hs _ _ _ _ _ _ _ => ⟨fun _ => hB r s hr rfl hs _ _ _ _ _ _ _ _, fun g => absurd rfl g⟩)⟩
theorem m_moves (hz : z ≤ 160) (hb : ∀ j, tb j < 256) (M : MdOk n0 m0 t0 w0 n1 m1 t1 w1 st mk tk pu go cl) {x po a0 c0 d0 fa rm kn : Int32} {b0 : Int64} {rd : Nat → Int32} {K : Int32 → Int32 → Int32 → Int32 → Int64 → Int32 → Int32 → Int32 → Int32 → Int32 → (Nat → Int32) → (Nat → Int32) → (Nat → Int32) → (Nat → Int32) → Prop}
    (h2 : (∀ r, r < 2 → x ≠ nI r) → ∀ u1 u2 u3 u4 u5 u6 u7 rd', K (-nI 2) (nI z) u1 u2 u3 u4 u5 u6 u7 kn pu go cl rd')
    (hB : ∀ r s, r < 2 → x = nI r → FB tb z (sel r n0 n1) (sel r m0 m1) 16 0 s → ∀ u1 u2 u3 u4 u5 u6 u7 rd', K (-nI 4) (nI z) u1 u2 u3 u4 u5 u6 u7 kn pu go cl rd')
    (hO : ∀ r L, r < 2 → x = nI r → FO tb z (sel r n0 n1) (sel r m0 m1) 16 0 L → ∀ pu' go' cl', MdOk n0 m0 t0 (sel r (apW w0 L) w0) n1 m1 t1 (sel r w1 (apW w1 L)) st mk tk pu' go' cl' → ∀ u1 u2 u3 u4 u5 u6 u7 rd', K (nI (sumN (fun j => pc9 (apW (sel r w0 w1) L j)) 18)) (nI 0) u1 u2 u3 u4 u5 u6 u7 (-nI 1) pu' go' cl' rd') :
    wX12_moves x (nI z) po a0 b0 c0 d0 fa rm kn st mk pu go cl (fun j => nI (tb j)) rd K := by
  unfold wX12_moves
  refine q_isR (fun r hr er => ?_) (fun g => ⟨fun _ => h2 g _ _ _ _ _ _ _ _, fun g => absurd rfl g⟩)
  subst er
  obtain ⟨W, hs, hm, _⟩ := MdOk_r M hr
  refine ⟨fun g => absurd g (by decide), fun _ => m_isRead hz hb hr W.1 W.2.1 W.2.2.1 W.2.2.2.1 hs hm (fun L hL rd' hR _ _ _ _ _ _ => ⟨fun g => absurd g (by decide), fun _ => ?_⟩) (fun s hs _ _ _ _ _ _ _ => ⟨fun _ => hB r s hr rfl hs _ _ _ _ _ _ _ _, fun g => absurd rfl g⟩)⟩
  have hl := FO_len _ _ _ hL
  refine m_movesL0 hr (by omega) hR M.2.2.1 W (fun pu' go' cl' kn' k2 A' W' => ?_)
  have ek : kn' = -nI 1 := k2 (fun e => by subst e; simp at hl)
  subst ek
  have es : sel r (sel r (apW w0 L) w0) (sel r w1 (apW w1 L)) = apW (sel r w0 w1) L := by
    rcases (show r = 0 ∨ r = 1 by omega) with e | e <;> subst e <;> rfl
  refine q_movesOf (t := sel r t0 t1) (n := sel r n0 n1) (m := sel r m0 m1) A' hr (by rw [es]; exact W') ?_
  rw [es]
  refine hO r L hr rfl hL _ _ _ ?_ _ _ _ _ _ _ _ _
  obtain ⟨W0, W1, _, R⟩ := M
  rcases (show r = 0 ∨ r = 1 by omega) with e | e <;> subst e
  · exact ⟨W', W1, A', R⟩
  · exact ⟨W0, W', A', R⟩
end
