/-- what shortest is, as far as nothing is said of lengths -/
def shV (y : Sy) (z : Prop) (v : Int32) : Prop := (Big (PS y) ∧ v = -nI 6) ∨ (¬ Big (PS y) ∧ (z → v = -nI 1))
theorem tk_0 (c : Nat) : tkB 0 c = false := by unfold tkB; simp
theorem T_0 {T : Nat} {f : Nat → Bool} (h : ∀ c, T.testBit c = f c) (h0 : ∀ c, f c = false) : T = 0 := by
  apply Nat.eq_of_testBit_eq
  intro i
  rw [h, h0]; simp
theorem LnI_new {y : Sy} {nc B ch : Nat} {fl0 : Int64} {co0 : Int64} {pz0 : Int32} {ed0 : Int32} {sn0 : Int32} {wz0 : Int32} {ws0 : Int32} {pa0 : Nat → Int32} {so0 : Nat → Int32} {wa0 : Nat → Int32} {nx0 : Nat → Int32} {ar0 : Nat → Int32} {pl0 : Nat → Int32} {sl0 : Nat → Int32} {im0 : Nat → Int32} {sp0 : Nat → Int64} (P : PInv y nc B ch fl0 co0 pz0 ed0 sn0 wz0 ws0 pa0 so0 wa0 nx0 ar0 pl0 sl0 im0 sp0) {lg la : Nat → Int32} : LnI y nc B ch ed0 sn0 wz0 ws0 pa0 wa0 ed0 lg la := by
  obtain ⟨e, s, ee, es, he, hs, hv⟩ := P
  exact ⟨e, ee, ⟨e, ee, Nat.le_refl _, he⟩, fun _ _ _ => trivial⟩
section
variable {n m t : Nat} {w : Nat → Nat}
theorem sh_post {KK : Prop → Prop} (hKK : ∀ {X : Prop}, X → KK X) (W : WfR n m t w) {B c : Nat} {fl3 : Int64} {co3 : Int64} {pz3 : Int32} {ed3 : Int32} {sn3 : Int32} {wz3 : Int32} {ws3 : Int32} {pa3 : Nat → Int32} {so3 : Nat → Int32} {wa3 : Nat → Int32} {nx3 : Nat → Int32} {ar3 : Nat → Int32} {pl3 : Nat → Int32} {sl3 : Nat → Int32} {im3 : Nat → Int32} {sp3 : Nat → Int64} (P3 : PInv (y1 n w) 8 B c fl3 co3 pz3 ed3 sn3 wz3 ws3 pa3 so3 wa3 nx3 ar3 pl3 sl3 im3 sp3) (hG : PcG (y1 n w) 8 fl3 co3 pz3 wz3 ws3 pa3 so3 wa3 nx3 ar3 pl3 sl3 im3 sp3) {ee0 : Int32} {ec0 : Int32} {ew0 : Nat → Int32} {es0 : Nat → Int32} {eg0 : Nat → Int32} {ea0 : Nat → Int32} {K : Int32 → Int32 → Int32 → (Nat → Int32) → (Nat → Int32) → (Nat → Int32) → (Nat → Int32) → Prop}
    (h : ∀ v ee3 ec3 ew3 es3 eg3 ea3, (t = 0 → v = -nI 1) → LnI (y1 n w) 8 B c ed3 sn3 wz3 ws3 pa3 wa3 ee3 eg3 ea3 → K v ee3 ec3 ew3 es3 eg3 ea3) :
    KK (wX4_held (wX1_takenByOne (nI 0) (nI t) (fun r => wX2_least r ee0 ec0 ed3 (nI 0) (fun j => nI (w j)) (fun j => nI (w j)) wz3 ws3 wa3 nx3 ar3 pl3 im3 ew0 es0 eg0 ea0 8 K))) := by
  obtain ⟨sz, st, pr, wo, fn, cn, n', e1, e2, G, _⟩ := hG
  subst e1; subst e2
  unfold wX4_held
  refine hKK (q_tkOne (.inl rfl) (fun T hT eT => ?_))
  refine least_any (HeldOk_one W W) (.inl rfl) G (by omega) hT (fun v c a b d e hv => h _ _ _ _ _ _ _ (fun t0 => hv (T_0 eT (fun q => by rw [t0, tk_0, Bool.and_false]))) (LnI_new P3))
/-- a listing asked for a row of any length -/
theorem lt_any (W : WfR n m t w) {ch : Nat} (hch : ch < 2147483648) {sn rz sm : Int32} {rl rb co si : Nat → Int32} {wd : Nat → Int64} {li : Nat → Int32} (L : LInv w n t ch sn rz rl rb wd li) {v : Int32} {k : Nat} (hk : k < 2147483648)
    {K : Int32 → Int32 → Int32 → (Nat → Int32) → (Nat → Int32) → Int32 → (Nat → Int32) → (Nat → Int32) → (Nat → Int64) → (Nat → Int32) → Prop}
    (h : ∀ r sn rz rl rb sm co si wd li, (v = -nI 1 → r = -nI 1) → LInv w n t ch sn rz rl rb wd li → K r sn rz rl rb sm co si wd li) :
    wX3_letterAt v 0 (nI k) sn (nI n) (nI m) (nI t) (nI ch) (fun j => nI (w j)) rz rl rb sm co si wd li K := by
  by_cases g1 : v < 0
  · unfold wX3_letterAt
    exact ⟨fun _ => h _ _ _ _ _ _ _ _ _ _ (fun _ => rfl) L, fun g => absurd g1 g⟩
  · obtain ⟨i, hi, ei⟩ := q_nn g1
    subst ei
    have nv : nI i = -nI 1 → False := fun e => (q_neg hi).1 e
    by_cases g2 : i ≤ 5
    · rw [show (0 : Int32) = nI 0 from rfl]
      exact q_ltAt W hch L g2 (by omega) hk (fun r sn rz rl rb sm co si wd li _ L' => h _ _ _ _ _ _ _ _ _ _ (fun e => (nv e).elim) L')
    · unfold wX3_letterAt
      exact ⟨fun g => absurd g g1, fun _ => ⟨fun _ => h _ _ _ _ _ _ _ _ _ _ (fun _ => rfl) L, fun g => absurd ((q_lt (a := 5) (by omega) hi).2 (by omega)) g⟩⟩
end
theorem c_shortest_w {n0 m0 t0 n1 m1 t1 : Nat} {w0 w1 : Nat → Nat} (W0 : WfR n0 m0 t0 w0) (W1 : WfR n1 m1 t1 w1) {B c0 c1 : Nat} (hB : B + 1 < 1073741824) (h0 : c0 < 1073741824) (hc1 : c1 < 1073741824) {fl0 co0 : Int64} {pz0 ed0 sn0 wz0 ws0 wsp0 : Int32} {pa0 so0 wa0 nx0 ar0 pl0 sl0 im0 : Nat → Int32} {sp0 : Nat → Int64} {fl1 co1 : Int64} {pz1 ed1 sn1 wz1 ws1 wsp1 : Int32} {pa1 so1 wa1 nx1 ar1 pl1 sl1 im1 : Nat → Int32} {sp1 : Nat → Int64} {ee0 : Int32} {ec0 : Int32} {ew0 : Nat → Int32} {es0 : Nat → Int32} {eg0 : Nat → Int32} {ea0 : Nat → Int32} {ee1 : Int32} {ec1 : Int32} {ew1 : Nat → Int32} {es1 : Nat → Int32} {eg1 : Nat → Int32} {ea1 : Nat → Int32}
    (P0 : PInv (syM 0 n0 w0 n1 w1) 8 B c0 fl0 co0 pz0 ed0 sn0 wz0 ws0 pa0 so0 wa0 nx0 ar0 pl0 sl0 im0 sp0) (P1 : PInv (syM 1 n0 w0 n1 w1) 8 B c1 fl1 co1 pz1 ed1 sn1 wz1 ws1 pa1 so1 wa1 nx1 ar1 pl1 sl1 im1 sp1) (E0 : LnI (syM 0 n0 w0 n1 w1) 8 B c0 ed0 sn0 wz0 ws0 pa0 wa0 ee0 eg0 ea0) (E1 : LnI (syM 1 n0 w0 n1 w1) 8 B c1 ed1 sn1 wz1 ws1 pa1 wa1 ee1 eg1 ea1) {x : Int32} {K : Int32 → Int64 → Int64 → Int32 → Int32 → Int32 → Int32 → Int32 → Int32 → (Nat → Int32) → (Nat → Int32) → (Nat → Int32) → (Nat → Int32) → (Nat → Int32) → (Nat → Int32) → (Nat → Int32) → (Nat → Int32) → (Nat → Int64) → Int64 → Int64 → Int32 → Int32 → Int32 → Int32 → Int32 → Int32 → (Nat → Int32) → (Nat → Int32) → (Nat → Int32) → (Nat → Int32) → (Nat → Int32) → (Nat → Int32) → (Nat → Int32) → (Nat → Int32) → (Nat → Int64) → Int32 → Int32 → (Nat → Int32) → (Nat → Int32) → (Nat → Int32) → (Nat → Int32) → Int32 → Int32 → (Nat → Int32) → (Nat → Int32) → (Nat → Int32) → (Nat → Int32) → Prop}
    (h1 : ∀ r v, r < 2 → x = nI r → shV (syM r n0 w0 n1 w1) (sel r t0 t1 = 0) v → ∀ fl3 co3 pz3 ed3 sn3 wz3 ws3 wsp3 pa3 so3 wa3 nx3 ar3 pl3 sl3 im3 sp3 fl4 co4 pz4 ed4 sn4 wz4 ws4 wsp4 pa4 so4 wa4 nx4 ar4 pl4 sl4 im4 sp4 ee3 ec3 ew3 es3 eg3 ea3 ee4 ec4 ew4 es4 eg4 ea4, PInv (syM 0 n0 w0 n1 w1) 8 (B + 1) c0 fl3 co3 pz3 ed3 sn3 wz3 ws3 pa3 so3 wa3 nx3 ar3 pl3 sl3 im3 sp3 → PInv (syM 1 n0 w0 n1 w1) 8 (B + 1) c1 fl4 co4 pz4 ed4 sn4 wz4 ws4 pa4 so4 wa4 nx4 ar4 pl4 sl4 im4 sp4 → PUp ed0 sn0 wz0 ws0 pa0 wa0 ed3 sn3 wz3 ws3 pa3 wa3 → PUp ed1 sn1 wz1 ws1 pa1 wa1 ed4 sn4 wz4 ws4 pa4 wa4 → LnI (syM 0 n0 w0 n1 w1) 8 (B + 1) c0 ed3 sn3 wz3 ws3 pa3 wa3 ee3 eg3 ea3 → LnI (syM 1 n0 w0 n1 w1) 8 (B + 1) c1 ed4 sn4 wz4 ws4 pa4 wa4 ee4 eg4 ea4 → K v fl3 co3 pz3 ed3 sn3 wz3 ws3 wsp3 pa3 so3 wa3 nx3 ar3 pl3 sl3 im3 sp3 fl4 co4 pz4 ed4 sn4 wz4 ws4 wsp4 pa4 so4 wa4 nx4 ar4 pl4 sl4 im4 sp4 ee3 ec3 ew3 es3 eg3 ea3 ee4 ec4 ew4 es4 eg4 ea4)
    (h2 : (∀ r, r < 2 → x ≠ nI r) → K (-nI 2) fl0 co0 pz0 ed0 sn0 wz0 ws0 wsp0 pa0 so0 wa0 nx0 ar0 pl0 sl0 im0 sp0 fl1 co1 pz1 ed1 sn1 wz1 ws1 wsp1 pa1 so1 wa1 nx1 ar1 pl1 sl1 im1 sp1 ee0 ec0 ew0 es0 eg0 ea0 ee1 ec1 ew1 es1 eg1 ea1) :
    wX11_shortest x (nI n0) (nI m0) (nI t0) (nI c0) (fun j => nI (w0 j)) (nI n1) (nI m1) (nI t1) (nI c1) (fun j => nI (w1 j)) fl0 co0 pz0 ed0 sn0 (nI 0) wz0 ws0 wsp0 pa0 so0 wa0 nx0 ar0 pl0 sl0 im0 sp0 fl1 co1 pz1 ed1 sn1 (nI 0) wz1 ws1 wsp1 pa1 so1 wa1 nx1 ar1 pl1 sl1 im1 sp1 ee0 ec0 ew0 es0 eg0 ea0 ee1 ec1 ew1 es1 eg1 ea1 K := by
  unfold wX11_shortest
  refine c_isR (fun r hr e => ⟨fun g => absurd g (by decide), fun _ => ?_⟩) (fun g => ⟨fun _ => h2 g, fun g => absurd rfl g⟩)
  have P0' := PInv_mono P0 (B' := B + 1) (by omega)
  have P1' := PInv_mono P1 (B' := B + 1) (by omega)
  have E0' := LnI_up E0 (Nat.le_refl _) (by omega) (PUp_r _ _ _ _ _ _)
  have E1' := LnI_up E1 (Nat.le_refl _) (by omega) (PUp_r _ _ _ _ _ _)
  have hh := fun v => h1 r v hr e
  refine c_pof (wh := r) (by omega) e (fun e2 => ?_) (fun e2 => ?_) (fun e2 => by omega)
  · subst e2; subst e
    refine q_areSpent (B := B) (HeldOk_one W0 W0) (show 8 = if 0 = 0 then 8 else 64 from rfl) (by omega) (show c0 + 0 * c0 < 1073741824 by omega) (by rw [Nat.zero_mul, Nat.add_zero]; exact P0) (fun r fl3 co3 pz3 ed3 sn3 wz3 ws3 wsp3 pa3 so3 wa3 nx3 ar3 pl3 sl3 im3 sp3 P3 hr U => ?_)
    rw [Nat.zero_mul, Nat.add_zero] at P3 U
    rcases hr with ⟨er, hS⟩ | ⟨er, hG⟩
    · rw [er]
      exact ⟨fun g => absurd g (by decide), fun _ => hh _ (.inl ⟨Big_not_le hS, rfl⟩) fl3 co3 pz3 ed3 sn3 wz3 ws3 wsp3 pa3 so3 wa3 nx3 ar3 pl3 sl3 im3 sp3 fl1 co1 pz1 ed1 sn1 wz1 ws1 wsp1 pa1 so1 wa1 nx1 ar1 pl1 sl1 im1 sp1 ee0 ec0 ew0 es0 eg0 ea0 ee1 ec1 ew1 es1 eg1 ea1 P3 P1' U.2 (PUp_r _ _ _ _ _ _) (LnI_up E0 (Nat.le_refl _) (by omega) U.2) E1'⟩
    · rw [er]
      have nb := PcS_G hG
      refine ⟨fun _ => ?_, fun g => absurd rfl g⟩
      exact sh_post (KK := fun X => wX11_lengthsOf (nI 0) False X) (fun h => ⟨fun _ => h, fun g => absurd rfl g⟩) W0 P3 hG (K := fun v ee3 ec3 ew3 es3 eg3 ea3 => K v fl3 co3 pz3 ed3 sn3 wz3 ws3 wsp3 pa3 so3 wa3 nx3 ar3 pl3 sl3 im3 sp3 fl1 co1 pz1 ed1 sn1 wz1 ws1 wsp1 pa1 so1 wa1 nx1 ar1 pl1 sl1 im1 sp1 ee3 ec3 ew3 es3 eg3 ea3 ee1 ec1 ew1 es1 eg1 ea1) (fun v ee3 ec3 ew3 es3 eg3 ea3 hv E3 => hh v (.inr ⟨nb, hv⟩) fl3 co3 pz3 ed3 sn3 wz3 ws3 wsp3 pa3 so3 wa3 nx3 ar3 pl3 sl3 im3 sp3 fl1 co1 pz1 ed1 sn1 wz1 ws1 wsp1 pa1 so1 wa1 nx1 ar1 pl1 sl1 im1 sp1 ee3 ec3 ew3 es3 eg3 ea3 ee1 ec1 ew1 es1 eg1 ea1 P3 P1' U.2 (PUp_r _ _ _ _ _ _) E3 E1')
  · subst e2; subst e
    refine q_areSpent (B := B) (HeldOk_one W1 W1) (show 8 = if 0 = 0 then 8 else 64 from rfl) (by omega) (show c1 + 0 * c1 < 1073741824 by omega) (by rw [Nat.zero_mul, Nat.add_zero]; exact P1) (fun r fl3 co3 pz3 ed3 sn3 wz3 ws3 wsp3 pa3 so3 wa3 nx3 ar3 pl3 sl3 im3 sp3 P3 hr U => ?_)
    rw [Nat.zero_mul, Nat.add_zero] at P3 U
    rcases hr with ⟨er, hS⟩ | ⟨er, hG⟩
    · rw [er]
      exact ⟨fun g => absurd g (by decide), fun _ => hh _ (.inl ⟨Big_not_le hS, rfl⟩) fl0 co0 pz0 ed0 sn0 wz0 ws0 wsp0 pa0 so0 wa0 nx0 ar0 pl0 sl0 im0 sp0 fl3 co3 pz3 ed3 sn3 wz3 ws3 wsp3 pa3 so3 wa3 nx3 ar3 pl3 sl3 im3 sp3 ee0 ec0 ew0 es0 eg0 ea0 ee1 ec1 ew1 es1 eg1 ea1 P0' P3 (PUp_r _ _ _ _ _ _) U.2 E0' (LnI_up E1 (Nat.le_refl _) (by omega) U.2)⟩
    · rw [er]
      have nb := PcS_G hG
      refine ⟨fun _ => ?_, fun g => absurd rfl g⟩
      exact sh_post (KK := fun X => wX11_lengthsOf (nI 1) X False) (fun h => ⟨fun g => absurd g (by decide), fun _ => h⟩) W1 P3 hG (K := fun v ee3 ec3 ew3 es3 eg3 ea3 => K v fl0 co0 pz0 ed0 sn0 wz0 ws0 wsp0 pa0 so0 wa0 nx0 ar0 pl0 sl0 im0 sp0 fl3 co3 pz3 ed3 sn3 wz3 ws3 wsp3 pa3 so3 wa3 nx3 ar3 pl3 sl3 im3 sp3 ee0 ec0 ew0 es0 eg0 ea0 ee3 ec3 ew3 es3 eg3 ea3) (fun v ee3 ec3 ew3 es3 eg3 ea3 hv E3 => hh v (.inr ⟨nb, hv⟩) fl0 co0 pz0 ed0 sn0 wz0 ws0 wsp0 pa0 so0 wa0 nx0 ar0 pl0 sl0 im0 sp0 fl3 co3 pz3 ed3 sn3 wz3 ws3 wsp3 pa3 so3 wa3 nx3 ar3 pl3 sl3 im3 sp3 ee0 ec0 ew0 es0 eg0 ea0 ee3 ec3 ew3 es3 eg3 ea3 P0' P3 (PUp_r _ _ _ _ _ _) U.2 E0' E3)
theorem c_first_w {n0 m0 t0 n1 m1 t1 : Nat} {w0 w1 : Nat → Nat} (W0 : WfR n0 m0 t0 w0) (W1 : WfR n1 m1 t1 w1) {B c0 c1 : Nat} (hB : B + 1 < 1073741824) (h0 : c0 < 1073741824) (hc1 : c1 < 1073741824) {fl0 co0 : Int64} {pz0 ed0 sn0 wz0 ws0 wsp0 : Int32} {pa0 so0 wa0 nx0 ar0 pl0 sl0 im0 : Nat → Int32} {sp0 : Nat → Int64} {fl1 co1 : Int64} {pz1 ed1 sn1 wz1 ws1 wsp1 : Int32} {pa1 so1 wa1 nx1 ar1 pl1 sl1 im1 : Nat → Int32} {sp1 : Nat → Int64} {ee0 : Int32} {ec0 : Int32} {ew0 : Nat → Int32} {es0 : Nat → Int32} {eg0 : Nat → Int32} {ea0 : Nat → Int32} {ee1 : Int32} {ec1 : Int32} {ew1 : Nat → Int32} {es1 : Nat → Int32} {eg1 : Nat → Int32} {ea1 : Nat → Int32} {qn0 : Int32} {qz0 : Int32} {ql0 : Nat → Int32} {qb0 : Nat → Int32} {qs0 : Int32} {qc0 : Nat → Int32} {qi0 : Nat → Int32} {qw0 : Nat → Int64} {qt0 : Nat → Int32} {qn1 : Int32} {qz1 : Int32} {ql1 : Nat → Int32} {qb1 : Nat → Int32} {qs1 : Int32} {qc1 : Nat → Int32} {qi1 : Nat → Int32} {qw1 : Nat → Int64} {qt1 : Nat → Int32}
    (P0 : PInv (syM 0 n0 w0 n1 w1) 8 B c0 fl0 co0 pz0 ed0 sn0 wz0 ws0 pa0 so0 wa0 nx0 ar0 pl0 sl0 im0 sp0) (P1 : PInv (syM 1 n0 w0 n1 w1) 8 B c1 fl1 co1 pz1 ed1 sn1 wz1 ws1 pa1 so1 wa1 nx1 ar1 pl1 sl1 im1 sp1) (E0 : LnI (syM 0 n0 w0 n1 w1) 8 B c0 ed0 sn0 wz0 ws0 pa0 wa0 ee0 eg0 ea0) (E1 : LnI (syM 1 n0 w0 n1 w1) 8 B c1 ed1 sn1 wz1 ws1 pa1 wa1 ee1 eg1 ea1) (L0 : LInv w0 n0 t0 c0 qn0 qz0 ql0 qb0 qw0 qt0) (L1 : LInv w1 n1 t1 c1 qn1 qz1 ql1 qb1 qw1 qt1) {x p : Int32} {K : Int32 → Int64 → Int64 → Int32 → Int32 → Int32 → Int32 → Int32 → Int32 → (Nat → Int32) → (Nat → Int32) → (Nat → Int32) → (Nat → Int32) → (Nat → Int32) → (Nat → Int32) → (Nat → Int32) → (Nat → Int32) → (Nat → Int64) → Int64 → Int64 → Int32 → Int32 → Int32 → Int32 → Int32 → Int32 → (Nat → Int32) → (Nat → Int32) → (Nat → Int32) → (Nat → Int32) → (Nat → Int32) → (Nat → Int32) → (Nat → Int32) → (Nat → Int32) → (Nat → Int64) → Int32 → Int32 → (Nat → Int32) → (Nat → Int32) → (Nat → Int32) → (Nat → Int32) → Int32 → Int32 → (Nat → Int32) → (Nat → Int32) → (Nat → Int32) → (Nat → Int32) → Int32 → Int32 → (Nat → Int32) → (Nat → Int32) → Int32 → (Nat → Int32) → (Nat → Int32) → (Nat → Int64) → (Nat → Int32) → Int32 → Int32 → (Nat → Int32) → (Nat → Int32) → Int32 → (Nat → Int32) → (Nat → Int32) → (Nat → Int64) → (Nat → Int32) → Prop}
    (h1 : ∀ r k v, r < 2 → x = nI r → k < 2147483648 → p = nI k → shV (syM r n0 w0 n1 w1) (sel r t0 t1 = 0) v → ∀ fl3 co3 pz3 ed3 sn3 wz3 ws3 wsp3 pa3 so3 wa3 nx3 ar3 pl3 sl3 im3 sp3 fl4 co4 pz4 ed4 sn4 wz4 ws4 wsp4 pa4 so4 wa4 nx4 ar4 pl4 sl4 im4 sp4 ee3 ec3 ew3 es3 eg3 ea3 ee4 ec4 ew4 es4 eg4 ea4 qn3 qz3 ql3 qb3 qs3 qc3 qi3 qw3 qt3 qn4 qz4 ql4 qb4 qs4 qc4 qi4 qw4 qt4, PInv (syM 0 n0 w0 n1 w1) 8 (B + 1) c0 fl3 co3 pz3 ed3 sn3 wz3 ws3 pa3 so3 wa3 nx3 ar3 pl3 sl3 im3 sp3 → PInv (syM 1 n0 w0 n1 w1) 8 (B + 1) c1 fl4 co4 pz4 ed4 sn4 wz4 ws4 pa4 so4 wa4 nx4 ar4 pl4 sl4 im4 sp4 → PUp ed0 sn0 wz0 ws0 pa0 wa0 ed3 sn3 wz3 ws3 pa3 wa3 → PUp ed1 sn1 wz1 ws1 pa1 wa1 ed4 sn4 wz4 ws4 pa4 wa4 → LnI (syM 0 n0 w0 n1 w1) 8 (B + 1) c0 ed3 sn3 wz3 ws3 pa3 wa3 ee3 eg3 ea3 → LnI (syM 1 n0 w0 n1 w1) 8 (B + 1) c1 ed4 sn4 wz4 ws4 pa4 wa4 ee4 eg4 ea4 → LInv w0 n0 t0 c0 qn3 qz3 ql3 qb3 qw3 qt3 → LInv w1 n1 t1 c1 qn4 qz4 ql4 qb4 qw4 qt4 → K v fl3 co3 pz3 ed3 sn3 wz3 ws3 wsp3 pa3 so3 wa3 nx3 ar3 pl3 sl3 im3 sp3 fl4 co4 pz4 ed4 sn4 wz4 ws4 wsp4 pa4 so4 wa4 nx4 ar4 pl4 sl4 im4 sp4 ee3 ec3 ew3 es3 eg3 ea3 ee4 ec4 ew4 es4 eg4 ea4 qn3 qz3 ql3 qb3 qs3 qc3 qi3 qw3 qt3 qn4 qz4 ql4 qb4 qs4 qc4 qi4 qw4 qt4)
    (h3 : ∀ r, r < 2 → x = nI r → (∀ k, k < 2147483648 → p ≠ nI k) → K (-nI 3) fl0 co0 pz0 ed0 sn0 wz0 ws0 wsp0 pa0 so0 wa0 nx0 ar0 pl0 sl0 im0 sp0 fl1 co1 pz1 ed1 sn1 wz1 ws1 wsp1 pa1 so1 wa1 nx1 ar1 pl1 sl1 im1 sp1 ee0 ec0 ew0 es0 eg0 ea0 ee1 ec1 ew1 es1 eg1 ea1 qn0 qz0 ql0 qb0 qs0 qc0 qi0 qw0 qt0 qn1 qz1 ql1 qb1 qs1 qc1 qi1 qw1 qt1)
    (h2 : (∀ r, r < 2 → x ≠ nI r) → K (-nI 2) fl0 co0 pz0 ed0 sn0 wz0 ws0 wsp0 pa0 so0 wa0 nx0 ar0 pl0 sl0 im0 sp0 fl1 co1 pz1 ed1 sn1 wz1 ws1 wsp1 pa1 so1 wa1 nx1 ar1 pl1 sl1 im1 sp1 ee0 ec0 ew0 es0 eg0 ea0 ee1 ec1 ew1 es1 eg1 ea1 qn0 qz0 ql0 qb0 qs0 qc0 qi0 qw0 qt0 qn1 qz1 ql1 qb1 qs1 qc1 qi1 qw1 qt1) :
    wX11_first x p (nI n0) (nI m0) (nI t0) (nI c0) (fun j => nI (w0 j)) (nI n1) (nI m1) (nI t1) (nI c1) (fun j => nI (w1 j)) fl0 co0 pz0 ed0 sn0 (nI 0) wz0 ws0 wsp0 pa0 so0 wa0 nx0 ar0 pl0 sl0 im0 sp0 fl1 co1 pz1 ed1 sn1 (nI 0) wz1 ws1 wsp1 pa1 so1 wa1 nx1 ar1 pl1 sl1 im1 sp1 ee0 ec0 ew0 es0 eg0 ea0 ee1 ec1 ew1 es1 eg1 ea1 qn0 qz0 ql0 qb0 qs0 qc0 qi0 qw0 qt0 qn1 qz1 ql1 qb1 qs1 qc1 qi1 qw1 qt1 K := by
  unfold wX11_first
  refine c_isR (fun r hr e => ⟨fun g => absurd g (by decide), fun _ => ?_⟩) (fun g => ⟨fun _ => h2 g, fun g => absurd rfl g⟩)
  refine ⟨fun g4 => ?_, fun g4 => h3 r hr e (fun k hk ek => g4 (by rw [ek]; exact (q_le (a := 0) (by omega) hk).2 (Nat.zero_le k)))⟩
  obtain ⟨k, hk, ek⟩ := q_nn (x := p) (fun g5 => by
    rw [Int32.lt_iff_toInt_lt] at g5
    rw [Int32.le_iff_toInt_le] at g4
    omega)
  subst ek
  have P0' := PInv_mono P0 (B' := B + 1) (by omega)
  have P1' := PInv_mono P1 (B' := B + 1) (by omega)
  have E0' := LnI_up E0 (Nat.le_refl _) (by omega) (PUp_r _ _ _ _ _ _)
  have E1' := LnI_up E1 (Nat.le_refl _) (by omega) (PUp_r _ _ _ _ _ _)
  have hh := fun v => h1 r k v hr e hk rfl
  refine c_pof (wh := r) (by omega) e (fun e2 => ?_) (fun e2 => ?_) (fun e2 => by omega)
  · subst e2; subst e
    refine q_areSpent (B := B) (HeldOk_one W0 W0) (show 8 = if 0 = 0 then 8 else 64 from rfl) (by omega) (show c0 + 0 * c0 < 1073741824 by omega) (by rw [Nat.zero_mul, Nat.add_zero]; exact P0) (fun r fl3 co3 pz3 ed3 sn3 wz3 ws3 wsp3 pa3 so3 wa3 nx3 ar3 pl3 sl3 im3 sp3 P3 hr U => ?_)
    rw [Nat.zero_mul, Nat.add_zero] at P3 U
    rcases hr with ⟨er, hS⟩ | ⟨er, hG⟩
    · rw [er]
      exact ⟨fun g => absurd g (by decide), fun _ => hh _ (.inl ⟨Big_not_le hS, rfl⟩) fl3 co3 pz3 ed3 sn3 wz3 ws3 wsp3 pa3 so3 wa3 nx3 ar3 pl3 sl3 im3 sp3 fl1 co1 pz1 ed1 sn1 wz1 ws1 wsp1 pa1 so1 wa1 nx1 ar1 pl1 sl1 im1 sp1 ee0 ec0 ew0 es0 eg0 ea0 ee1 ec1 ew1 es1 eg1 ea1 qn0 qz0 ql0 qb0 qs0 qc0 qi0 qw0 qt0 qn1 qz1 ql1 qb1 qs1 qc1 qi1 qw1 qt1 P3 P1' U.2 (PUp_r _ _ _ _ _ _) (LnI_up E0 (Nat.le_refl _) (by omega) U.2) E1' L0 L1⟩
    · rw [er]
      have nb := PcS_G hG
      refine ⟨fun _ => ?_, fun g => absurd rfl g⟩
      refine sh_post (KK := fun X => wX11_lengthsOf (nI 0) False X) (fun h => ⟨fun _ => h, fun g => absurd rfl g⟩) W0 P3 hG (fun v ee3 ec3 ew3 es3 eg3 ea3 hv E3 => ?_)
      refine ⟨fun _ => ?_, fun g => absurd rfl g⟩
      exact lt_any W0 (by omega) L0 hk (K := fun v qn3 qz3 ql3 qb3 qs3 qc3 qi3 qw3 qt3 => K v fl3 co3 pz3 ed3 sn3 wz3 ws3 wsp3 pa3 so3 wa3 nx3 ar3 pl3 sl3 im3 sp3 fl1 co1 pz1 ed1 sn1 wz1 ws1 wsp1 pa1 so1 wa1 nx1 ar1 pl1 sl1 im1 sp1 ee3 ec3 ew3 es3 eg3 ea3 ee1 ec1 ew1 es1 eg1 ea1 qn3 qz3 ql3 qb3 qs3 qc3 qi3 qw3 qt3 qn1 qz1 ql1 qb1 qs1 qc1 qi1 qw1 qt1) (fun u qn3 qz3 ql3 qb3 qs3 qc3 qi3 qw3 qt3 hu L3 => hh u (.inr ⟨nb, fun z => hu (hv z)⟩) fl3 co3 pz3 ed3 sn3 wz3 ws3 wsp3 pa3 so3 wa3 nx3 ar3 pl3 sl3 im3 sp3 fl1 co1 pz1 ed1 sn1 wz1 ws1 wsp1 pa1 so1 wa1 nx1 ar1 pl1 sl1 im1 sp1 ee3 ec3 ew3 es3 eg3 ea3 ee1 ec1 ew1 es1 eg1 ea1 qn3 qz3 ql3 qb3 qs3 qc3 qi3 qw3 qt3 qn1 qz1 ql1 qb1 qs1 qc1 qi1 qw1 qt1 P3 P1' U.2 (PUp_r _ _ _ _ _ _) E3 E1' L3 L1)
  · subst e2; subst e
    refine q_areSpent (B := B) (HeldOk_one W1 W1) (show 8 = if 0 = 0 then 8 else 64 from rfl) (by omega) (show c1 + 0 * c1 < 1073741824 by omega) (by rw [Nat.zero_mul, Nat.add_zero]; exact P1) (fun r fl3 co3 pz3 ed3 sn3 wz3 ws3 wsp3 pa3 so3 wa3 nx3 ar3 pl3 sl3 im3 sp3 P3 hr U => ?_)
    rw [Nat.zero_mul, Nat.add_zero] at P3 U
    rcases hr with ⟨er, hS⟩ | ⟨er, hG⟩
    · rw [er]
      exact ⟨fun g => absurd g (by decide), fun _ => hh _ (.inl ⟨Big_not_le hS, rfl⟩) fl0 co0 pz0 ed0 sn0 wz0 ws0 wsp0 pa0 so0 wa0 nx0 ar0 pl0 sl0 im0 sp0 fl3 co3 pz3 ed3 sn3 wz3 ws3 wsp3 pa3 so3 wa3 nx3 ar3 pl3 sl3 im3 sp3 ee0 ec0 ew0 es0 eg0 ea0 ee1 ec1 ew1 es1 eg1 ea1 qn0 qz0 ql0 qb0 qs0 qc0 qi0 qw0 qt0 qn1 qz1 ql1 qb1 qs1 qc1 qi1 qw1 qt1 P0' P3 (PUp_r _ _ _ _ _ _) U.2 E0' (LnI_up E1 (Nat.le_refl _) (by omega) U.2) L0 L1⟩
    · rw [er]
      have nb := PcS_G hG
      refine ⟨fun _ => ?_, fun g => absurd rfl g⟩
      refine sh_post (KK := fun X => wX11_lengthsOf (nI 1) X False) (fun h => ⟨fun g => absurd g (by decide), fun _ => h⟩) W1 P3 hG (fun v ee3 ec3 ew3 es3 eg3 ea3 hv E3 => ?_)
      refine ⟨fun g => absurd g (by decide), fun _ => ?_⟩
      exact lt_any W1 (by omega) L1 hk (K := fun v qn3 qz3 ql3 qb3 qs3 qc3 qi3 qw3 qt3 => K v fl0 co0 pz0 ed0 sn0 wz0 ws0 wsp0 pa0 so0 wa0 nx0 ar0 pl0 sl0 im0 sp0 fl3 co3 pz3 ed3 sn3 wz3 ws3 wsp3 pa3 so3 wa3 nx3 ar3 pl3 sl3 im3 sp3 ee0 ec0 ew0 es0 eg0 ea0 ee3 ec3 ew3 es3 eg3 ea3 qn0 qz0 ql0 qb0 qs0 qc0 qi0 qw0 qt0 qn3 qz3 ql3 qb3 qs3 qc3 qi3 qw3 qt3) (fun u qn3 qz3 ql3 qb3 qs3 qc3 qi3 qw3 qt3 hu L3 => hh u (.inr ⟨nb, fun z => hu (hv z)⟩) fl0 co0 pz0 ed0 sn0 wz0 ws0 wsp0 pa0 so0 wa0 nx0 ar0 pl0 sl0 im0 sp0 fl3 co3 pz3 ed3 sn3 wz3 ws3 wsp3 pa3 so3 wa3 nx3 ar3 pl3 sl3 im3 sp3 ee0 ec0 ew0 es0 eg0 ea0 ee3 ec3 ew3 es3 eg3 ea3 qn0 qz0 ql0 qb0 qs0 qc0 qi0 qw0 qt0 qn3 qz3 ql3 qb3 qs3 qc3 qi3 qw3 qt3 P0' P3 (PUp_r _ _ _ _ _ _) U.2 E0' E3 L0 L3)
theorem c_two_w {n0 m0 t0 n1 m1 t1 : Nat} {w0 w1 : Nat → Nat} (W0 : WfR n0 m0 t0 w0) (W1 : WfR n1 m1 t1 w1) {B c0 c1 : Nat} (hB : B + 1 < 1073741824) (hc : c0 + c1 < 1073741824) {fl2 co2 : Int64} {pz2 ed2 sn2 wz2 ws2 wsp2 : Int32} {pa2 so2 wa2 nx2 ar2 pl2 sl2 im2 : Nat → Int32} {sp2 : Nat → Int64} {ee2 : Int32} {ec2 : Int32} {ew2 : Nat → Int32} {es2 : Nat → Int32} {eg2 : Nat → Int32} {ea2 : Nat → Int32} (P2 : PInv (syM 2 n0 w0 n1 w1) 64 B (c0 + c1) fl2 co2 pz2 ed2 sn2 wz2 ws2 pa2 so2 wa2 nx2 ar2 pl2 sl2 im2 sp2) (E2 : LnI (syM 2 n0 w0 n1 w1) 64 B (c0 + c1) ed2 sn2 wz2 ws2 pa2 wa2 ee2 eg2 ea2) {K : Int32 → Int64 → Int64 → Int32 → Int32 → Int32 → Int32 → Int32 → Int32 → (Nat → Int32) → (Nat → Int32) → (Nat → Int32) → (Nat → Int32) → (Nat → Int32) → (Nat → Int32) → (Nat → Int32) → (Nat → Int32) → (Nat → Int64) → Int32 → Int32 → (Nat → Int32) → (Nat → Int32) → (Nat → Int32) → (Nat → Int32) → Prop}
    (h1 : ∀ v, shV (syM 2 n0 w0 n1 w1) (t0 = 0 ∧ t1 = 0) v → ∀ fl5 co5 pz5 ed5 sn5 wz5 ws5 wsp5 pa5 so5 wa5 nx5 ar5 pl5 sl5 im5 sp5 ee5 ec5 ew5 es5 eg5 ea5, PInv (syM 2 n0 w0 n1 w1) 64 (B + 1) (c0 + c1) fl5 co5 pz5 ed5 sn5 wz5 ws5 pa5 so5 wa5 nx5 ar5 pl5 sl5 im5 sp5 → PUp ed2 sn2 wz2 ws2 pa2 wa2 ed5 sn5 wz5 ws5 pa5 wa5 → LnI (syM 2 n0 w0 n1 w1) 64 (B + 1) (c0 + c1) ed5 sn5 wz5 ws5 pa5 wa5 ee5 eg5 ea5 → K v fl5 co5 pz5 ed5 sn5 wz5 ws5 wsp5 pa5 so5 wa5 nx5 ar5 pl5 sl5 im5 sp5 ee5 ec5 ew5 es5 eg5 ea5) :
    wX11_parted (nI n0) (nI m0) (nI t0) (nI c0) (fun j => nI (w0 j)) (nI n1) (nI m1) (nI t1) (nI c1) (fun j => nI (w1 j)) fl2 co2 pz2 ed2 sn2 (nI 1) wz2 ws2 wsp2 pa2 so2 wa2 nx2 ar2 pl2 sl2 im2 sp2 ee2 ec2 ew2 es2 eg2 ea2 K ∧ wX11_both (nI n0) (nI m0) (nI t0) (nI c0) (fun j => nI (w0 j)) (nI n1) (nI m1) (nI t1) (nI c1) (fun j => nI (w1 j)) fl2 co2 pz2 ed2 sn2 (nI 1) wz2 ws2 wsp2 pa2 so2 wa2 nx2 ar2 pl2 sl2 im2 sp2 ee2 ec2 ew2 es2 eg2 ea2 K := by
  have post : ∀ fl5 co5 pz5 ed5 sn5 wz5 ws5 wsp5 pa5 so5 wa5 nx5 ar5 pl5 sl5 im5 sp5, PInv (syM 2 n0 w0 n1 w1) 64 (B + 1) (c0 + c1) fl5 co5 pz5 ed5 sn5 wz5 ws5 pa5 so5 wa5 nx5 ar5 pl5 sl5 im5 sp5 → PUp ed2 sn2 wz2 ws2 pa2 wa2 ed5 sn5 wz5 ws5 pa5 wa5 → PcG (syM 2 n0 w0 n1 w1) 64 fl5 co5 pz5 wz5 ws5 pa5 so5 wa5 nx5 ar5 pl5 sl5 im5 sp5 → ∀ T, T < 18446744073709551616 → (t0 = 0 ∧ t1 = 0 → T = 0) → wX2_least (lN T) ee2 ec2 ed5 (nI 1) (fun j => nI (w0 j)) (fun j => nI (w1 j)) wz5 ws5 wa5 nx5 ar5 pl5 im5 ew2 es2 eg2 ea2 64 (fun v ee5 ec5 ew5 es5 eg5 ea5 => K v fl5 co5 pz5 ed5 sn5 wz5 ws5 wsp5 pa5 so5 wa5 nx5 ar5 pl5 sl5 im5 sp5 ee5 ec5 ew5 es5 eg5 ea5) := by
    intro fl5 co5 pz5 ed5 sn5 wz5 ws5 wsp5 pa5 so5 wa5 nx5 ar5 pl5 sl5 im5 sp5 P5 U hG T hT h0
    have nb := PcS_G hG
    obtain ⟨sz, st, pr, wo, fn, cn, n', e1, e2, G, _⟩ := hG
    subst e1; subst e2
    refine least_any (HeldOk_two W0 W1) (.inr rfl) G (by omega) hT (fun v c a b d e hv => h1 v (.inr ⟨nb, fun z => hv (h0 z)⟩) _ _ _ _ _ _ _ _ _ _ _ _ _ _ _ _ _ _ _ _ _ _ _ P5 U (LnI_new P5))
  constructor
  · unfold wX11_parted
    refine q_areSpent (B := B) (HeldOk_two W0 W1) (show 64 = if n1 = 0 then 8 else 64 by rw [if_neg (by have := W1.1; omega)]) (by omega) (show c0 + 1 * c1 < 1073741824 by omega) (by rw [Nat.one_mul]; exact P2) (fun r fl5 co5 pz5 ed5 sn5 wz5 ws5 wsp5 pa5 so5 wa5 nx5 ar5 pl5 sl5 im5 sp5 P5 hr U => ?_)
    rw [Nat.one_mul] at P5
    rcases hr with ⟨er, hS⟩ | ⟨er, hG⟩
    · rw [er]
      exact ⟨fun g => absurd g (by decide), fun _ => h1 _ (.inl ⟨Big_not_le hS, rfl⟩) fl5 co5 pz5 ed5 sn5 wz5 ws5 wsp5 pa5 so5 wa5 nx5 ar5 pl5 sl5 im5 sp5 ee2 ec2 ew2 es2 eg2 ea2 P5 U.2 (LnI_up E2 (Nat.le_refl _) (by omega) U.2)⟩
    · rw [er]
      refine ⟨fun _ => ?_, fun g => absurd rfl g⟩
      unfold wX4_held
      refine q_tkOne (.inr rfl) (fun A hA tA => q_tkOther (.inr rfl) (fun C hC tC => ?_))
      rw [lNxor]
      refine post fl5 co5 pz5 ed5 sn5 wz5 ws5 wsp5 pa5 so5 wa5 nx5 ar5 pl5 sl5 im5 sp5 P5 U.2 hG _ (Nat.xor_lt_two_pow (n := 64) hA hC) (fun z => ?_)
      rw [T_0 tA (fun q => by rw [z.1, tk_0, Bool.and_false]), T_0 tC (fun q => by rw [z.2, tk_0, Bool.and_false])]; rfl
  · unfold wX11_both
    refine q_areSpent (B := B) (HeldOk_two W0 W1) (show 64 = if n1 = 0 then 8 else 64 by rw [if_neg (by have := W1.1; omega)]) (by omega) (show c0 + 1 * c1 < 1073741824 by omega) (by rw [Nat.one_mul]; exact P2) (fun r fl5 co5 pz5 ed5 sn5 wz5 ws5 wsp5 pa5 so5 wa5 nx5 ar5 pl5 sl5 im5 sp5 P5 hr U => ?_)
    rw [Nat.one_mul] at P5
    rcases hr with ⟨er, hS⟩ | ⟨er, hG⟩
    · rw [er]
      exact ⟨fun g => absurd g (by decide), fun _ => h1 _ (.inl ⟨Big_not_le hS, rfl⟩) fl5 co5 pz5 ed5 sn5 wz5 ws5 wsp5 pa5 so5 wa5 nx5 ar5 pl5 sl5 im5 sp5 ee2 ec2 ew2 es2 eg2 ea2 P5 U.2 (LnI_up E2 (Nat.le_refl _) (by omega) U.2)⟩
    · rw [er]
      refine ⟨fun _ => ?_, fun g => absurd rfl g⟩
      unfold wX4_held
      refine q_tkOne (.inr rfl) (fun A hA tA => q_tkOther (.inr rfl) (fun C hC tC => ?_))
      rw [lN_and]
      refine post fl5 co5 pz5 ed5 sn5 wz5 ws5 wsp5 pa5 so5 wa5 nx5 ar5 pl5 sl5 im5 sp5 P5 U.2 hG _ (Nat.lt_of_le_of_lt Nat.and_le_left hA) (fun z => ?_)
      rw [T_0 tA (fun q => by rw [z.1, tk_0, Bool.and_false])]; simp
