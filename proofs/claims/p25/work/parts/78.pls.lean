/-- what a new asking does to what is kept of places: nothing, or it is a later edition -/
def PUp (ed sn wz ws : Int32) (pa wa : Nat → Int32) (ed' sn' wz' ws' : Int32) (pa' wa' : Nat → Int32) : Prop :=
  (ed' = ed ∧ sn' = sn ∧ wz' = wz ∧ ws' = ws ∧ pa' = pa ∧ wa' = wa) ∨ (∃ e, ed = nI e ∧ ed' = nI (e + 1))
theorem PUp_r (ed sn wz ws : Int32) (pa wa : Nat → Int32) : PUp ed sn wz ws pa wa ed sn wz ws pa wa := .inl ⟨rfl, rfl, rfl, rfl, rfl, rfl⟩
theorem PInv_mono {y : Sy} {nc B B' ch : Nat} {fl0 : Int64} {co0 : Int64} {pz0 : Int32} {ed0 : Int32} {sn0 : Int32} {wz0 : Int32} {ws0 : Int32} {pa0 : Nat → Int32} {so0 : Nat → Int32} {wa0 : Nat → Int32} {nx0 : Nat → Int32} {ar0 : Nat → Int32} {pl0 : Nat → Int32} {sl0 : Nat → Int32} {im0 : Nat → Int32} {sp0 : Nat → Int64} (h : PInv y nc B ch fl0 co0 pz0 ed0 sn0 wz0 ws0 pa0 so0 wa0 nx0 ar0 pl0 sl0 im0 sp0) (hB : B ≤ B') : PInv y nc B' ch fl0 co0 pz0 ed0 sn0 wz0 ws0 pa0 so0 wa0 nx0 ar0 pl0 sl0 im0 sp0 := by
  obtain ⟨e, s, h1, h2, h3, h4, h5⟩ := h
  exact ⟨e, s, h1, h2, by omega, h4, h5⟩
def FPc (n0 : Nat) (w0 : Nat → Nat) (n1 : Nat) (w1 : Nat → Nat) (kn sp wz nz pz : Int32) (wo co si de : Nat → Int32) : Prop := ∀ wh, wh < 3 → kn = nI wh → FPok (syM wh n0 w0 n1 w1) wh sp wz nz pz wo co si de
theorem FPc_m1 {n0 : Nat} {w0 : Nat → Nat} {n1 : Nat} {w1 : Nat → Nat} {sp wz nz pz : Int32} {wo co si de : Nat → Int32} : FPc n0 w0 n1 w1 (-1) sp wz nz pz wo co si de := fun _ h e => absurd e.symm (q_nm1 (by omega))
def plV (y : Sy) (v : Int32) : Prop := (Big (PS y) ∧ v = -nI 6) ∨ ∃ p f, Enum (PS y) f p ∧ p ≤ 60 ∧ v = nI p
theorem plV_det {y : Sy} {v v' : Int32} (h : plV y v) (h' : plV y v') : v = v' := by
  rcases h with ⟨b, e⟩ | ⟨p, f, hf, hp, e⟩ <;> rcases h' with ⟨b', e'⟩ | ⟨p', f', hf', hp', e'⟩
  · rw [e, e']
  · have := Enum_Big hf' b; omega
  · have := Enum_Big hf b'; omega
  · rw [e, e', Enum_eq hf hf']
def nch (wh : Nat) : Nat := if wh = 2 then 64 else 8
theorem HeldOk_one {n m t n' m' t' : Nat} {w w' : Nat → Nat} (W : WfR n m t w) (W' : WfR n' m' t' w') : HeldOk ((n, w), (0, fun _ => 0)) 0 n m t n' m' t' w w' := ⟨W, W', rfl, .inr ⟨rfl, rfl⟩⟩
theorem HeldOk_two {n m t n' m' t' : Nat} {w w' : Nat → Nat} (W : WfR n m t w) (W' : WfR n' m' t' w') : HeldOk ((n, w), (n', w')) 1 n m t n' m' t' w w' := ⟨W, W', rfl, .inl ⟨rfl, rfl⟩⟩
theorem Big_not_le {y : Sy} {pz : Int32} (h : PcS y pz) : Big (PS y) := by
  obtain ⟨n, _, _, _, h⟩ := h; exact h
theorem c_pof {x : Int32} {A B C : Prop} {wh : Nat} (hw : wh < 3) (e : x = nI wh) (h0 : wh = 0 → B) (h1 : wh = 1 → A) (h2 : wh = 2 → C) : wX11_placesOf x A B C := by
  unfold wX11_placesOf
  subst e
  rcases wh3 hw with e | e | e <;> subst e
  · exact ⟨fun g => absurd g (by decide), fun _ => ⟨fun _ => h0 rfl, fun g => absurd rfl g⟩⟩
  · exact ⟨fun g => absurd g (by decide), fun _ => ⟨fun g => absurd g (by decide), fun _ => h1 rfl⟩⟩
  · exact ⟨fun _ => h2 rfl, fun g => absurd rfl g⟩
theorem c_places {n0 m0 t0 n1 m1 t1 : Nat} {w0 w1 : Nat → Nat} (W0 : WfR n0 m0 t0 w0) (W1 : WfR n1 m1 t1 w1) {B c0 c1 : Nat} (hB : B < 1073741824) (hc : c0 + c1 < 1073741824) {fl0 co0 : Int64} {pz0 ed0 sn0 wz0 ws0 wsp0 : Int32} {pa0 so0 wa0 nx0 ar0 pl0 sl0 im0 : Nat → Int32} {sp0 : Nat → Int64} {fl1 co1 : Int64} {pz1 ed1 sn1 wz1 ws1 wsp1 : Int32} {pa1 so1 wa1 nx1 ar1 pl1 sl1 im1 : Nat → Int32} {sp1 : Nat → Int64} {fl2 co2 : Int64} {pz2 ed2 sn2 wz2 ws2 wsp2 : Int32} {pa2 so2 wa2 nx2 ar2 pl2 sl2 im2 : Nat → Int32} {sp2 : Nat → Int64}
    (P0 : PInv (syM 0 n0 w0 n1 w1) 8 B c0 fl0 co0 pz0 ed0 sn0 wz0 ws0 pa0 so0 wa0 nx0 ar0 pl0 sl0 im0 sp0) (P1 : PInv (syM 1 n0 w0 n1 w1) 8 B c1 fl1 co1 pz1 ed1 sn1 wz1 ws1 pa1 so1 wa1 nx1 ar1 pl1 sl1 im1 sp1) (P2 : PInv (syM 2 n0 w0 n1 w1) 64 B (c0 + c1) fl2 co2 pz2 ed2 sn2 wz2 ws2 pa2 so2 wa2 nx2 ar2 pl2 sl2 im2 sp2)
    {x : Int32} {K : Int32 → Int64 → Int64 → Int32 → Int32 → Int32 → Int32 → Int32 → Int32 → (Nat → Int32) → (Nat → Int32) → (Nat → Int32) → (Nat → Int32) → (Nat → Int32) → (Nat → Int32) → (Nat → Int32) → (Nat → Int32) → (Nat → Int64) → Int64 → Int64 → Int32 → Int32 → Int32 → Int32 → Int32 → Int32 → (Nat → Int32) → (Nat → Int32) → (Nat → Int32) → (Nat → Int32) → (Nat → Int32) → (Nat → Int32) → (Nat → Int32) → (Nat → Int32) → (Nat → Int64) → Int64 → Int64 → Int32 → Int32 → Int32 → Int32 → Int32 → Int32 → (Nat → Int32) → (Nat → Int32) → (Nat → Int32) → (Nat → Int32) → (Nat → Int32) → (Nat → Int32) → (Nat → Int32) → (Nat → Int32) → (Nat → Int64) → Prop}
    (h1 : ∀ wh v, wh < 3 → x = nI wh → plV (syM wh n0 w0 n1 w1) v → ∀ fl3 co3 pz3 ed3 sn3 wz3 ws3 wsp3 pa3 so3 wa3 nx3 ar3 pl3 sl3 im3 sp3 fl4 co4 pz4 ed4 sn4 wz4 ws4 wsp4 pa4 so4 wa4 nx4 ar4 pl4 sl4 im4 sp4 fl5 co5 pz5 ed5 sn5 wz5 ws5 wsp5 pa5 so5 wa5 nx5 ar5 pl5 sl5 im5 sp5, PInv (syM 0 n0 w0 n1 w1) 8 (B + 1) c0 fl3 co3 pz3 ed3 sn3 wz3 ws3 pa3 so3 wa3 nx3 ar3 pl3 sl3 im3 sp3 → PInv (syM 1 n0 w0 n1 w1) 8 (B + 1) c1 fl4 co4 pz4 ed4 sn4 wz4 ws4 pa4 so4 wa4 nx4 ar4 pl4 sl4 im4 sp4 → PInv (syM 2 n0 w0 n1 w1) 64 (B + 1) (c0 + c1) fl5 co5 pz5 ed5 sn5 wz5 ws5 pa5 so5 wa5 nx5 ar5 pl5 sl5 im5 sp5 →
      PUp ed0 sn0 wz0 ws0 pa0 wa0 ed3 sn3 wz3 ws3 pa3 wa3 → PUp ed1 sn1 wz1 ws1 pa1 wa1 ed4 sn4 wz4 ws4 pa4 wa4 → PUp ed2 sn2 wz2 ws2 pa2 wa2 ed5 sn5 wz5 ws5 pa5 wa5 → K v fl3 co3 pz3 ed3 sn3 wz3 ws3 wsp3 pa3 so3 wa3 nx3 ar3 pl3 sl3 im3 sp3 fl4 co4 pz4 ed4 sn4 wz4 ws4 wsp4 pa4 so4 wa4 nx4 ar4 pl4 sl4 im4 sp4 fl5 co5 pz5 ed5 sn5 wz5 ws5 wsp5 pa5 so5 wa5 nx5 ar5 pl5 sl5 im5 sp5)
    (h2 : (∀ wh, wh < 3 → x ≠ nI wh) → K (-nI 2) fl0 co0 pz0 ed0 sn0 wz0 ws0 wsp0 pa0 so0 wa0 nx0 ar0 pl0 sl0 im0 sp0 fl1 co1 pz1 ed1 sn1 wz1 ws1 wsp1 pa1 so1 wa1 nx1 ar1 pl1 sl1 im1 sp1 fl2 co2 pz2 ed2 sn2 wz2 ws2 wsp2 pa2 so2 wa2 nx2 ar2 pl2 sl2 im2 sp2) :
    wX11_places x (nI n0) (nI m0) (nI c0) (fun j => nI (w0 j)) (nI n1) (nI m1) (nI c1) (fun j => nI (w1 j)) fl0 co0 pz0 ed0 sn0 (nI 0) wz0 ws0 wsp0 pa0 so0 wa0 nx0 ar0 pl0 sl0 im0 sp0 fl1 co1 pz1 ed1 sn1 (nI 0) wz1 ws1 wsp1 pa1 so1 wa1 nx1 ar1 pl1 sl1 im1 sp1 fl2 co2 pz2 ed2 sn2 (nI 1) wz2 ws2 wsp2 pa2 so2 wa2 nx2 ar2 pl2 sl2 im2 sp2 K := by
  have vS : ∀ {y : Sy} {pz : Int32}, PcS y pz → plV y (-6) := fun h => .inl ⟨Big_not_le h, rfl⟩
  have vG : ∀ {y : Sy} {nc : Nat} {fl9 : Int64} {co9 : Int64} {pz9 : Int32} {wz9 : Int32} {ws9 : Int32} {pa9 : Nat → Int32} {so9 : Nat → Int32} {wa9 : Nat → Int32} {nx9 : Nat → Int32} {ar9 : Nat → Int32} {pl9 : Nat → Int32} {sl9 : Nat → Int32} {im9 : Nat → Int32} {sp9 : Nat → Int64}, PcG y nc fl9 co9 pz9 wz9 ws9 pa9 so9 wa9 nx9 ar9 pl9 sl9 im9 sp9 → plV y pz9 := fun h => by
    obtain ⟨sz, st, pr, wo, fn, cn, n, _, _, _, _, _, _, _, _, _, en, hn, f, hf⟩ := h
    exact .inr ⟨n, f, hf, hn, en⟩
  have Q0 : x = nI 0 → wX4_areSpent fl0 co0 pz0 ed0 sn0 (nI 0) (nI n0) (nI m0) (nI c0) (fun j => nI (w0 j)) (nI n0) (nI m0) (nI c0) (fun j => nI (w0 j)) wz0 ws0 wsp0 pa0 so0 wa0 nx0 ar0 pl0 sl0 im0 sp0 8 (fun r fl3 co3 pz3 ed3 sn3 wz3 ws3 wsp3 pa3 so3 wa3 nx3 ar3 pl3 sl3 im3 sp3 => (r = 0 → wX4_size pz3 (fun q => K q fl3 co3 pz3 ed3 sn3 wz3 ws3 wsp3 pa3 so3 wa3 nx3 ar3 pl3 sl3 im3 sp3 fl1 co1 pz1 ed1 sn1 wz1 ws1 wsp1 pa1 so1 wa1 nx1 ar1 pl1 sl1 im1 sp1 fl2 co2 pz2 ed2 sn2 wz2 ws2 wsp2 pa2 so2 wa2 nx2 ar2 pl2 sl2 im2 sp2)) ∧ (¬ r = 0 → K (-6) fl3 co3 pz3 ed3 sn3 wz3 ws3 wsp3 pa3 so3 wa3 nx3 ar3 pl3 sl3 im3 sp3 fl1 co1 pz1 ed1 sn1 wz1 ws1 wsp1 pa1 so1 wa1 nx1 ar1 pl1 sl1 im1 sp1 fl2 co2 pz2 ed2 sn2 wz2 ws2 wsp2 pa2 so2 wa2 nx2 ar2 pl2 sl2 im2 sp2)) := fun e => by
    refine q_areSpent (HeldOk_one W0 W0) (show 8 = if 0 = 0 then 8 else 64 from rfl) hB (show c0 + 0 * c0 < 1073741824 by omega) (by rw [Nat.zero_mul, Nat.add_zero]; exact P0) (fun r fl3 co3 pz3 ed3 sn3 wz3 ws3 wsp3 pa3 so3 wa3 nx3 ar3 pl3 sl3 im3 sp3 P3 hr U => ?_)
    rw [Nat.zero_mul, Nat.add_zero] at P3
    have P1 := PInv_mono P1 (B' := B + 1) (by omega)
    have P2 := PInv_mono P2 (B' := B + 1) (by omega)
    rcases hr with ⟨er, hS⟩ | ⟨er, hG⟩
    · rw [er]
      exact ⟨fun g => absurd g (by decide), fun _ => h1 0 _ (by omega) e (vS hS) fl3 co3 pz3 ed3 sn3 wz3 ws3 wsp3 pa3 so3 wa3 nx3 ar3 pl3 sl3 im3 sp3 fl1 co1 pz1 ed1 sn1 wz1 ws1 wsp1 pa1 so1 wa1 nx1 ar1 pl1 sl1 im1 sp1 fl2 co2 pz2 ed2 sn2 wz2 ws2 wsp2 pa2 so2 wa2 nx2 ar2 pl2 sl2 im2 sp2 P3 P1 P2 U.2 (PUp_r _ _ _ _ _ _) (PUp_r _ _ _ _ _ _)⟩
    · rw [er]
      exact ⟨fun _ => h1 0 _ (by omega) e (vG hG) fl3 co3 pz3 ed3 sn3 wz3 ws3 wsp3 pa3 so3 wa3 nx3 ar3 pl3 sl3 im3 sp3 fl1 co1 pz1 ed1 sn1 wz1 ws1 wsp1 pa1 so1 wa1 nx1 ar1 pl1 sl1 im1 sp1 fl2 co2 pz2 ed2 sn2 wz2 ws2 wsp2 pa2 so2 wa2 nx2 ar2 pl2 sl2 im2 sp2 P3 P1 P2 U.2 (PUp_r _ _ _ _ _ _) (PUp_r _ _ _ _ _ _), fun g => absurd rfl g⟩
  have Q1 : x = nI 1 → wX4_areSpent fl1 co1 pz1 ed1 sn1 (nI 0) (nI n1) (nI m1) (nI c1) (fun j => nI (w1 j)) (nI n1) (nI m1) (nI c1) (fun j => nI (w1 j)) wz1 ws1 wsp1 pa1 so1 wa1 nx1 ar1 pl1 sl1 im1 sp1 8 (fun r fl3 co3 pz3 ed3 sn3 wz3 ws3 wsp3 pa3 so3 wa3 nx3 ar3 pl3 sl3 im3 sp3 => (r = 0 → wX4_size pz3 (fun q => K q fl0 co0 pz0 ed0 sn0 wz0 ws0 wsp0 pa0 so0 wa0 nx0 ar0 pl0 sl0 im0 sp0 fl3 co3 pz3 ed3 sn3 wz3 ws3 wsp3 pa3 so3 wa3 nx3 ar3 pl3 sl3 im3 sp3 fl2 co2 pz2 ed2 sn2 wz2 ws2 wsp2 pa2 so2 wa2 nx2 ar2 pl2 sl2 im2 sp2)) ∧ (¬ r = 0 → K (-6) fl0 co0 pz0 ed0 sn0 wz0 ws0 wsp0 pa0 so0 wa0 nx0 ar0 pl0 sl0 im0 sp0 fl3 co3 pz3 ed3 sn3 wz3 ws3 wsp3 pa3 so3 wa3 nx3 ar3 pl3 sl3 im3 sp3 fl2 co2 pz2 ed2 sn2 wz2 ws2 wsp2 pa2 so2 wa2 nx2 ar2 pl2 sl2 im2 sp2)) := fun e => by
    refine q_areSpent (HeldOk_one W1 W1) (show 8 = if 0 = 0 then 8 else 64 from rfl) hB (show c1 + 0 * c1 < 1073741824 by omega) (by rw [Nat.zero_mul, Nat.add_zero]; exact P1) (fun r fl3 co3 pz3 ed3 sn3 wz3 ws3 wsp3 pa3 so3 wa3 nx3 ar3 pl3 sl3 im3 sp3 P3 hr U => ?_)
    rw [Nat.zero_mul, Nat.add_zero] at P3
    have P0 := PInv_mono P0 (B' := B + 1) (by omega)
    have P2 := PInv_mono P2 (B' := B + 1) (by omega)
    rcases hr with ⟨er, hS⟩ | ⟨er, hG⟩
    · rw [er]
      exact ⟨fun g => absurd g (by decide), fun _ => h1 1 _ (by omega) e (vS hS) fl0 co0 pz0 ed0 sn0 wz0 ws0 wsp0 pa0 so0 wa0 nx0 ar0 pl0 sl0 im0 sp0 fl3 co3 pz3 ed3 sn3 wz3 ws3 wsp3 pa3 so3 wa3 nx3 ar3 pl3 sl3 im3 sp3 fl2 co2 pz2 ed2 sn2 wz2 ws2 wsp2 pa2 so2 wa2 nx2 ar2 pl2 sl2 im2 sp2 P0 P3 P2 (PUp_r _ _ _ _ _ _) U.2 (PUp_r _ _ _ _ _ _)⟩
    · rw [er]
      exact ⟨fun _ => h1 1 _ (by omega) e (vG hG) fl0 co0 pz0 ed0 sn0 wz0 ws0 wsp0 pa0 so0 wa0 nx0 ar0 pl0 sl0 im0 sp0 fl3 co3 pz3 ed3 sn3 wz3 ws3 wsp3 pa3 so3 wa3 nx3 ar3 pl3 sl3 im3 sp3 fl2 co2 pz2 ed2 sn2 wz2 ws2 wsp2 pa2 so2 wa2 nx2 ar2 pl2 sl2 im2 sp2 P0 P3 P2 (PUp_r _ _ _ _ _ _) U.2 (PUp_r _ _ _ _ _ _), fun g => absurd rfl g⟩
  have Q2 : x = nI 2 → wX4_areSpent fl2 co2 pz2 ed2 sn2 (nI 1) (nI n0) (nI m0) (nI c0) (fun j => nI (w0 j)) (nI n1) (nI m1) (nI c1) (fun j => nI (w1 j)) wz2 ws2 wsp2 pa2 so2 wa2 nx2 ar2 pl2 sl2 im2 sp2 64 (fun r fl3 co3 pz3 ed3 sn3 wz3 ws3 wsp3 pa3 so3 wa3 nx3 ar3 pl3 sl3 im3 sp3 => (r = 0 → wX4_size pz3 (fun q => K q fl0 co0 pz0 ed0 sn0 wz0 ws0 wsp0 pa0 so0 wa0 nx0 ar0 pl0 sl0 im0 sp0 fl1 co1 pz1 ed1 sn1 wz1 ws1 wsp1 pa1 so1 wa1 nx1 ar1 pl1 sl1 im1 sp1 fl3 co3 pz3 ed3 sn3 wz3 ws3 wsp3 pa3 so3 wa3 nx3 ar3 pl3 sl3 im3 sp3)) ∧ (¬ r = 0 → K (-6) fl0 co0 pz0 ed0 sn0 wz0 ws0 wsp0 pa0 so0 wa0 nx0 ar0 pl0 sl0 im0 sp0 fl1 co1 pz1 ed1 sn1 wz1 ws1 wsp1 pa1 so1 wa1 nx1 ar1 pl1 sl1 im1 sp1 fl3 co3 pz3 ed3 sn3 wz3 ws3 wsp3 pa3 so3 wa3 nx3 ar3 pl3 sl3 im3 sp3)) := fun e => by
    refine q_areSpent (HeldOk_two W0 W1) (show 64 = if n1 = 0 then 8 else 64 by rw [if_neg (by have := W1.1; omega)]) hB (show c0 + 1 * c1 < 1073741824 by omega) (by rw [Nat.one_mul]; exact P2) (fun r fl3 co3 pz3 ed3 sn3 wz3 ws3 wsp3 pa3 so3 wa3 nx3 ar3 pl3 sl3 im3 sp3 P3 hr U => ?_)
    rw [Nat.one_mul] at P3
    have P0 := PInv_mono P0 (B' := B + 1) (by omega)
    have P1 := PInv_mono P1 (B' := B + 1) (by omega)
    rcases hr with ⟨er, hS⟩ | ⟨er, hG⟩
    · rw [er]
      exact ⟨fun g => absurd g (by decide), fun _ => h1 2 _ (by omega) e (vS hS) fl0 co0 pz0 ed0 sn0 wz0 ws0 wsp0 pa0 so0 wa0 nx0 ar0 pl0 sl0 im0 sp0 fl1 co1 pz1 ed1 sn1 wz1 ws1 wsp1 pa1 so1 wa1 nx1 ar1 pl1 sl1 im1 sp1 fl3 co3 pz3 ed3 sn3 wz3 ws3 wsp3 pa3 so3 wa3 nx3 ar3 pl3 sl3 im3 sp3 P0 P1 P3 (PUp_r _ _ _ _ _ _) (PUp_r _ _ _ _ _ _) U.2⟩
    · rw [er]
      exact ⟨fun _ => h1 2 _ (by omega) e (vG hG) fl0 co0 pz0 ed0 sn0 wz0 ws0 wsp0 pa0 so0 wa0 nx0 ar0 pl0 sl0 im0 sp0 fl1 co1 pz1 ed1 sn1 wz1 ws1 wsp1 pa1 so1 wa1 nx1 ar1 pl1 sl1 im1 sp1 fl3 co3 pz3 ed3 sn3 wz3 ws3 wsp3 pa3 so3 wa3 nx3 ar3 pl3 sl3 im3 sp3 P0 P1 P3 (PUp_r _ _ _ _ _ _) (PUp_r _ _ _ _ _ _) U.2, fun g => absurd rfl g⟩
  unfold wX11_places
  refine c_isR (fun r hr e => ⟨fun g => absurd g (by decide), fun _ => ?_⟩) (fun g => ⟨fun _ => ⟨fun g2 => ?_, fun g2 => ?_⟩, fun g => absurd rfl g⟩)
  · refine c_pof (wh := r) (by omega) e (fun e2 => ?_) (fun e2 => ?_) (fun e2 => by omega)
    · subst e2; exact Q0 e
    · subst e2; exact Q1 e
  · exact c_pof (wh := 2) (by omega) g2 (fun e2 => by omega) (fun e2 => by omega) (fun _ => Q2 g2)
  · refine h2 (fun wh hw e => ?_)
    by_cases g3 : wh < 2
    · exact g wh g3 e
    · exact g2 (by rw [e, show wh = 2 from by omega]; rfl)
theorem m_places {n0 m0 t0 n1 m1 t1 : Nat} {w0 w1 : Nat → Nat} {st mk tk pu go cl : Nat → Int32} (M : MdOk n0 m0 t0 w0 n1 m1 t1 w1 st mk tk pu go cl) {x kn sp wz nz pz : Int32} {wo wl co si de lo : Nat → Int32} (C : FPc n0 w0 n1 w1 kn sp wz nz pz wo co si de) {K : Int32 → Int32 → Int32 → Int32 → Int32 → Int32 → (Nat → Int32) → (Nat → Int32) → (Nat → Int32) → (Nat → Int32) → (Nat → Int32) → (Nat → Int32) → Prop}
    (h1 : ∀ wh v, wh < 3 → x = nI wh → plV (syM wh n0 w0 n1 w1) v → ∀ kn sp wz nz pz wo wl co si de lo, FPc n0 w0 n1 w1 kn sp wz nz pz wo co si de → K v kn sp wz nz pz wo wl co si de lo)
    (h2 : (∀ wh, wh < 3 → x ≠ nI wh) → K (-nI 2) kn sp wz nz pz wo wl co si de lo) :
    wX12_places x kn sp wz nz pz st mk pu go cl wo wl co si de lo K := by
  unfold wX12_places
  refine q_behind (z := 2) (by omega) (fun wh hw e => ⟨fun g => absurd g (by decide), fun _ => ?_⟩) (fun g => ⟨fun _ => h2 (fun wh hw => g wh (by omega)), fun g => absurd rfl g⟩)
  subst e
  refine m_findPlaces (by omega) rfl M (C wh (by omega)) (fun sp wz nz pz wo wl co si de lo F => ?_)
  have C' : FPc n0 w0 n1 w1 (nI wh) sp wz nz pz wo co si de := fun wh' h' e => by
    rw [q_eq (by omega) (by omega)] at e
    subst e
    exact F
  rcases F with ⟨e, hb⟩ | ⟨e, wn, xs, n, nd, p, _, _, ep, hp, _, _, _, _, _, _, f, hf⟩
  · rw [e]
    exact ⟨fun g => absurd g (by decide), fun _ => h1 wh _ (by omega) rfl (.inl ⟨hb, rfl⟩) _ _ _ _ _ _ _ _ _ _ _ (by rw [← e]; exact C')⟩
  · rw [e]
    refine ⟨fun _ => h1 wh _ (by omega) rfl (.inr ⟨p, f, hf, hp, ep⟩) _ _ _ _ _ _ _ _ _ _ _ (by rw [← e]; exact C'), fun g => absurd rfl g⟩
