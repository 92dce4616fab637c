section
variable {n m t : Nat} {w : Nat → Nat}
/-- what counting does behind areSpent -/
theorem man_post (W : WfR n m t w) {B c : Nat} (hB : B < 1073741824) {N : Nat} (hN : N ≤ 12) {fl3 : Int64} {co3 : Int64} {pz3 : Int32} {ed3 : Int32} {sn3 : Int32} {wz3 : Int32} {ws3 : Int32} {pa3 : Nat → Int32} {so3 : Nat → Int32} {wa3 : Nat → Int32} {nx3 : Nat → Int32} {ar3 : Nat → Int32} {pl3 : Nat → Int32} {sl3 : Nat → Int32} {im3 : Nat → Int32} {sp3 : Nat → Int64} (P3 : PInv (y1 n w) 8 B c fl3 co3 pz3 ed3 sn3 wz3 ws3 pa3 so3 wa3 nx3 ar3 pl3 sl3 im3 sp3) (hsn : sn3 = nI c) (hG : PcG (y1 n w) 8 fl3 co3 pz3 wz3 ws3 pa3 so3 wa3 nx3 ar3 pl3 sl3 im3 sp3) {ce cc : Int32} {cw cs cg ca : Nat → Int64} (C3 : CInv (y1 n w) B c ed3 sn3 wz3 ws3 pa3 wa3 ce cc cw cs cg ca) (hne : ed3 ≠ 0) {K : Int32 → Int32 → Int32 → (Nat → Int64) → (Nat → Int64) → (Nat → Int64) → (Nat → Int64) → Prop}
    (h : ∀ v ce cc cw cs cg ca, manV (y1 n w) t N v → CInv (y1 n w) B c ed3 sn3 wz3 ws3 pa3 wa3 ce cc cw cs cg ca → K v ce cc cw cs cg ca) :
    wX4_held (wX1_takenByOne (nI 0) (nI t) (fun r => wX0_rowsWithin r (nI N) (nI 8) ce cc ed3 (nI 0) (fun j => nI (w j)) (fun j => nI (w j)) wz3 ws3 wa3 nx3 ar3 pl3 im3 cw cs cg ca 8 K)) := by
  have hok := y1_ok W
  have nb := PcS_G hG
  obtain ⟨sz, st, pr, wo, fn, cn, n', e1, e2, G, e3, F, e4, cl, hcn, hf, e5, n60, ef⟩ := hG
  subst e1; subst e2; subst e3; subst e4; subst e5
  obtain ⟨ec, ct, e6, e7, hct, ⟨e, ee, he, heB⟩, hv⟩ := C3
  subst e6; subst e7; subst ee; subst hsn
  obtain ⟨f, hf'⟩ := ef
  have hFN := FinS_N ⟨f, n', hf'⟩
  obtain ⟨hW, _⟩ := id G
  have s60 := WI_st hW
  have hE := WhOk_Enum G
  have e0 : e ≠ 0 := fun g => hne (by rw [g]; rfl)
  unfold wX4_held
  refine q_tkOne (.inl rfl) (fun T hT eT => ?_)
  refine q_rowsWithin W G hFN F (fun q x d hx => hf q ((hcn q).2 ⟨x, d, hx⟩)) hT (fun q => by rw [eT, if_pos rfl]) hN (by omega) (by omega) hct (fun g => hv (by rw [g]) rfl (by omega) sz st pr wo rfl rfl hW.1 (by have := hW.1; omega) (fun i hi => ⟨(hW.2.1 i hi).1, (WS_R2 hok (hE.1 i hi)).1⟩) (fun j hj => ⟨(hW.2.2.2.2.1 j hj).1, (hW.2.2.2.2.1 j hj).2.1⟩)) (fun ct' cw' cs' cg' ca' h12 C' => ?_)
  refine h _ _ _ _ _ _ _ (.inr ⟨nb, rfl⟩) ⟨e, ct', rfl, rfl, h12, ⟨e, rfl, Nat.le_refl _, heB⟩, fun _ _ _ sz2 st2 pr2 wo2 g1 g2 g3 g4 g5 g6 => ?_⟩
  have z1 := (q_eq (by have := hW.1; omega) (by omega)).1 g1
  have z2 := (q_eq (by have := hW.1; omega) (by omega)).1 g2
  subst z1; subst z2
  have ep : ∀ i, i < sz → pr2 i = pr i := fun i hi => by
    have a := (g5 i hi).1
    rw [(hW.2.1 i hi).1] at a
    have := (WS_R2 hok (hE.1 i hi)).1
    exact ((q_eq (by omega) (by have := (g5 i hi).2; omega)).1 a).symm
  have ew : ∀ j, j < st → wo2 j = wo j := fun j hj => by
    have a := (g6 j hj).1
    rw [(hW.2.2.2.2.1 j hj).1] at a
    have := (hW.2.2.2.2.1 j hj).2.1
    have := hW.1
    exact ((q_eq (by omega) (by have := (g6 j hj).2; omega)).1 a).symm
  intro l hl
  obtain ⟨c1, c2, c3⟩ := C' l hl
  exact ⟨fun i hi => by rw [ep i hi]; exact c1 i hi, fun s hs h1 => by rw [ew s hs, ep _ (hW.2.2.2.2.1 s hs).2.1]; exact c2 s hs h1, c3⟩
end
theorem c_many {n0 m0 t0 n1 m1 t1 : Nat} {w0 w1 : Nat → Nat} (W0 : WfR n0 m0 t0 w0) (W1 : WfR n1 m1 t1 w1) {B c0 c1 : Nat} (hB : B + 1 < 1073741824) (h0 : c0 < 1073741824) (hc1 : c1 < 1073741824) {fl0 co0 : Int64} {pz0 ed0 sn0 wz0 ws0 wsp0 : Int32} {pa0 so0 wa0 nx0 ar0 pl0 sl0 im0 : Nat → Int32} {sp0 : Nat → Int64} {fl1 co1 : Int64} {pz1 ed1 sn1 wz1 ws1 wsp1 : Int32} {pa1 so1 wa1 nx1 ar1 pl1 sl1 im1 : Nat → Int32} {sp1 : Nat → Int64} {ce0 : Int32} {cc0 : Int32} {cw0 : Nat → Int64} {cs0 : Nat → Int64} {cg0 : Nat → Int64} {ca0 : Nat → Int64} {ce1 : Int32} {cc1 : Int32} {cw1 : Nat → Int64} {cs1 : Nat → Int64} {cg1 : Nat → Int64} {ca1 : Nat → Int64}
    (P0 : PInv (syM 0 n0 w0 n1 w1) 8 B c0 fl0 co0 pz0 ed0 sn0 wz0 ws0 pa0 so0 wa0 nx0 ar0 pl0 sl0 im0 sp0) (P1 : PInv (syM 1 n0 w0 n1 w1) 8 B c1 fl1 co1 pz1 ed1 sn1 wz1 ws1 pa1 so1 wa1 nx1 ar1 pl1 sl1 im1 sp1) (C0 : CInv (syM 0 n0 w0 n1 w1) B c0 ed0 sn0 wz0 ws0 pa0 wa0 ce0 cc0 cw0 cs0 cg0 ca0) (C1 : CInv (syM 1 n0 w0 n1 w1) B c1 ed1 sn1 wz1 ws1 pa1 wa1 ce1 cc1 cw1 cs1 cg1 ca1) {x p : Int32} {K : Int32 → Int64 → Int64 → Int32 → Int32 → Int32 → Int32 → Int32 → Int32 → (Nat → Int32) → (Nat → Int32) → (Nat → Int32) → (Nat → Int32) → (Nat → Int32) → (Nat → Int32) → (Nat → Int32) → (Nat → Int32) → (Nat → Int64) → Int64 → Int64 → Int32 → Int32 → Int32 → Int32 → Int32 → Int32 → (Nat → Int32) → (Nat → Int32) → (Nat → Int32) → (Nat → Int32) → (Nat → Int32) → (Nat → Int32) → (Nat → Int32) → (Nat → Int32) → (Nat → Int64) → Int32 → Int32 → (Nat → Int64) → (Nat → Int64) → (Nat → Int64) → (Nat → Int64) → Int32 → Int32 → (Nat → Int64) → (Nat → Int64) → (Nat → Int64) → (Nat → Int64) → Prop}
    (h1 : ∀ r N v, r < 2 → x = nI r → N ≤ 12 → p = nI N → manV (syM r n0 w0 n1 w1) (sel r t0 t1) N v → ∀ fl3 co3 pz3 ed3 sn3 wz3 ws3 wsp3 pa3 so3 wa3 nx3 ar3 pl3 sl3 im3 sp3 fl4 co4 pz4 ed4 sn4 wz4 ws4 wsp4 pa4 so4 wa4 nx4 ar4 pl4 sl4 im4 sp4 ce3 cc3 cw3 cs3 cg3 ca3 ce4 cc4 cw4 cs4 cg4 ca4, PInv (syM 0 n0 w0 n1 w1) 8 (B + 1) c0 fl3 co3 pz3 ed3 sn3 wz3 ws3 pa3 so3 wa3 nx3 ar3 pl3 sl3 im3 sp3 → PInv (syM 1 n0 w0 n1 w1) 8 (B + 1) c1 fl4 co4 pz4 ed4 sn4 wz4 ws4 pa4 so4 wa4 nx4 ar4 pl4 sl4 im4 sp4 → PUp ed0 sn0 wz0 ws0 pa0 wa0 ed3 sn3 wz3 ws3 pa3 wa3 → PUp ed1 sn1 wz1 ws1 pa1 wa1 ed4 sn4 wz4 ws4 pa4 wa4 → CInv (syM 0 n0 w0 n1 w1) (B + 1) c0 ed3 sn3 wz3 ws3 pa3 wa3 ce3 cc3 cw3 cs3 cg3 ca3 → CInv (syM 1 n0 w0 n1 w1) (B + 1) c1 ed4 sn4 wz4 ws4 pa4 wa4 ce4 cc4 cw4 cs4 cg4 ca4 → K v fl3 co3 pz3 ed3 sn3 wz3 ws3 wsp3 pa3 so3 wa3 nx3 ar3 pl3 sl3 im3 sp3 fl4 co4 pz4 ed4 sn4 wz4 ws4 wsp4 pa4 so4 wa4 nx4 ar4 pl4 sl4 im4 sp4 ce3 cc3 cw3 cs3 cg3 ca3 ce4 cc4 cw4 cs4 cg4 ca4)
    (h3 : ∀ r, r < 2 → x = nI r → (∀ N, N ≤ 12 → p ≠ nI N) → K (-nI 3) fl0 co0 pz0 ed0 sn0 wz0 ws0 wsp0 pa0 so0 wa0 nx0 ar0 pl0 sl0 im0 sp0 fl1 co1 pz1 ed1 sn1 wz1 ws1 wsp1 pa1 so1 wa1 nx1 ar1 pl1 sl1 im1 sp1 ce0 cc0 cw0 cs0 cg0 ca0 ce1 cc1 cw1 cs1 cg1 ca1)
    (h2 : (∀ r, r < 2 → x ≠ nI r) → K (-nI 2) fl0 co0 pz0 ed0 sn0 wz0 ws0 wsp0 pa0 so0 wa0 nx0 ar0 pl0 sl0 im0 sp0 fl1 co1 pz1 ed1 sn1 wz1 ws1 wsp1 pa1 so1 wa1 nx1 ar1 pl1 sl1 im1 sp1 ce0 cc0 cw0 cs0 cg0 ca0 ce1 cc1 cw1 cs1 cg1 ca1) :
    wX11_many x p (nI n0) (nI m0) (nI t0) (nI c0) (fun j => nI (w0 j)) (nI n1) (nI m1) (nI t1) (nI c1) (fun j => nI (w1 j)) fl0 co0 pz0 ed0 sn0 (nI 0) wz0 ws0 wsp0 pa0 so0 wa0 nx0 ar0 pl0 sl0 im0 sp0 fl1 co1 pz1 ed1 sn1 (nI 0) wz1 ws1 wsp1 pa1 so1 wa1 nx1 ar1 pl1 sl1 im1 sp1 (nI 8) ce0 cc0 cw0 cs0 cg0 ca0 (nI 8) ce1 cc1 cw1 cs1 cg1 ca1 K := by
  unfold wX11_many
  refine c_isR (fun r hr e => ⟨fun g => absurd g (by decide), fun _ => ?_⟩) (fun g => ⟨fun _ => h2 g, fun g => absurd rfl g⟩)
  refine ⟨fun g => h3 r hr e (fun N hN eN => by rw [eN] at g; exact absurd g (nI_pos (by omega))), fun g0 => ⟨fun g12 => ?_, fun g12 => h3 r hr e (fun N hN eN => g12 (by rw [eN]; exact (q_le (b := 12) (by omega) (by omega)).2 hN))⟩⟩
  obtain ⟨N, hN, eN⟩ := q_nn g0
  subst eN
  have hN := (q_le (b := 12) hN (by omega)).1 g12
  have P0' := PInv_mono P0 (B' := B + 1) (by omega)
  have P1' := PInv_mono P1 (B' := B + 1) (by omega)
  have C0' := CInv_up C0 (Nat.le_refl _) (by omega) (PUp_r _ _ _ _ _ _)
  have C1' := CInv_up C1 (Nat.le_refl _) (by omega) (PUp_r _ _ _ _ _ _)
  have hh := fun v => h1 r N v hr e hN rfl
  refine c_pof (wh := r) (by omega) e (fun e2 => ?_) (fun e2 => ?_) (fun e2 => by omega)
  · subst e2; subst e
    refine q_areSpent (B := B) (HeldOk_one W0 W0) (show 8 = if 0 = 0 then 8 else 64 from rfl) (by omega) (show c0 + 0 * c0 < 1073741824 by omega) (by rw [Nat.zero_mul, Nat.add_zero]; exact P0) (fun r fl3 co3 pz3 ed3 sn3 wz3 ws3 wsp3 pa3 so3 wa3 nx3 ar3 pl3 sl3 im3 sp3 P3 hr U => ?_)
    rw [Nat.zero_mul, Nat.add_zero] at P3 U
    have C3 := CInv_up C0 (Nat.le_refl _) (by omega) U.2
    rcases hr with ⟨er, hS⟩ | ⟨er, hG⟩
    · rw [er]
      exact ⟨fun g => absurd g (by decide), fun _ => hh _ (.inl ⟨Big_not_le hS, rfl⟩) fl3 co3 pz3 ed3 sn3 wz3 ws3 wsp3 pa3 so3 wa3 nx3 ar3 pl3 sl3 im3 sp3 fl1 co1 pz1 ed1 sn1 wz1 ws1 wsp1 pa1 so1 wa1 nx1 ar1 pl1 sl1 im1 sp1 ce0 cc0 cw0 cs0 cg0 ca0 ce1 cc1 cw1 cs1 cg1 ca1 P3 P1' U.2 (PUp_r _ _ _ _ _ _) C3 C1'⟩
    · rw [er]
      refine ⟨fun _ => ⟨fun _ => ?_, fun g => absurd rfl g⟩, fun g => absurd rfl g⟩
      exact man_post (B := B + 1) W0 (by omega) hN P3 U.1.1 hG C3 U.1.2 (K := fun v ce3 cc3 cw3 cs3 cg3 ca3 => K v fl3 co3 pz3 ed3 sn3 wz3 ws3 wsp3 pa3 so3 wa3 nx3 ar3 pl3 sl3 im3 sp3 fl1 co1 pz1 ed1 sn1 wz1 ws1 wsp1 pa1 so1 wa1 nx1 ar1 pl1 sl1 im1 sp1 ce3 cc3 cw3 cs3 cg3 ca3 ce1 cc1 cw1 cs1 cg1 ca1) (fun v ce3 cc3 cw3 cs3 cg3 ca3 hv C5 => hh v hv fl3 co3 pz3 ed3 sn3 wz3 ws3 wsp3 pa3 so3 wa3 nx3 ar3 pl3 sl3 im3 sp3 fl1 co1 pz1 ed1 sn1 wz1 ws1 wsp1 pa1 so1 wa1 nx1 ar1 pl1 sl1 im1 sp1 ce3 cc3 cw3 cs3 cg3 ca3 ce1 cc1 cw1 cs1 cg1 ca1 P3 P1' U.2 (PUp_r _ _ _ _ _ _) C5 C1')
  · subst e2; subst e
    refine q_areSpent (B := B) (HeldOk_one W1 W1) (show 8 = if 0 = 0 then 8 else 64 from rfl) (by omega) (show c1 + 0 * c1 < 1073741824 by omega) (by rw [Nat.zero_mul, Nat.add_zero]; exact P1) (fun r fl3 co3 pz3 ed3 sn3 wz3 ws3 wsp3 pa3 so3 wa3 nx3 ar3 pl3 sl3 im3 sp3 P3 hr U => ?_)
    rw [Nat.zero_mul, Nat.add_zero] at P3 U
    have C3 := CInv_up C1 (Nat.le_refl _) (by omega) U.2
    rcases hr with ⟨er, hS⟩ | ⟨er, hG⟩
    · rw [er]
      exact ⟨fun g => absurd g (by decide), fun _ => hh _ (.inl ⟨Big_not_le hS, rfl⟩) fl0 co0 pz0 ed0 sn0 wz0 ws0 wsp0 pa0 so0 wa0 nx0 ar0 pl0 sl0 im0 sp0 fl3 co3 pz3 ed3 sn3 wz3 ws3 wsp3 pa3 so3 wa3 nx3 ar3 pl3 sl3 im3 sp3 ce0 cc0 cw0 cs0 cg0 ca0 ce1 cc1 cw1 cs1 cg1 ca1 P0' P3 (PUp_r _ _ _ _ _ _) U.2 C0' C3⟩
    · rw [er]
      refine ⟨fun _ => ⟨fun g => absurd g (by decide), fun _ => ?_⟩, fun g => absurd rfl g⟩
      exact man_post (B := B + 1) W1 (by omega) hN P3 U.1.1 hG C3 U.1.2 (K := fun v ce3 cc3 cw3 cs3 cg3 ca3 => K v fl0 co0 pz0 ed0 sn0 wz0 ws0 wsp0 pa0 so0 wa0 nx0 ar0 pl0 sl0 im0 sp0 fl3 co3 pz3 ed3 sn3 wz3 ws3 wsp3 pa3 so3 wa3 nx3 ar3 pl3 sl3 im3 sp3 ce0 cc0 cw0 cs0 cg0 ca0 ce3 cc3 cw3 cs3 cg3 ca3) (fun v ce3 cc3 cw3 cs3 cg3 ca3 hv C5 => hh v hv fl0 co0 pz0 ed0 sn0 wz0 ws0 wsp0 pa0 so0 wa0 nx0 ar0 pl0 sl0 im0 sp0 fl3 co3 pz3 ed3 sn3 wz3 ws3 wsp3 pa3 so3 wa3 nx3 ar3 pl3 sl3 im3 sp3 ce0 cc0 cw0 cs0 cg0 ca0 ce3 cc3 cw3 cs3 cg3 ca3 P0' P3 (PUp_r _ _ _ _ _ _) U.2 C0' C5)
