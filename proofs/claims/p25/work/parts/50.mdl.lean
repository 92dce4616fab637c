/-- the two readers as the reference holds them -/
def MdOk (n0 m0 t0 : Nat) (w0 : Nat → Nat) (n1 m1 t1 : Nat) (w1 : Nat → Nat) (st mk tk pu go cl : Nat → Int32) : Prop :=
  WfR n0 m0 t0 w0 ∧ WfR n1 m1 t1 w1 ∧ MA w0 w1 pu go cl ∧ st 0 = nI n0 ∧ st 1 = nI n1 ∧ mk 0 = nI m0 ∧ mk 1 = nI m1 ∧ tk 0 = nI t0 ∧ tk 1 = nI t1
/-- of whom it is asked: 0, 1 the one reader, 2 both -/
def syM (wh n0 : Nat) (w0 : Nat → Nat) (n1 : Nat) (w1 : Nat → Nat) : Sy := if wh = 0 then ((n0, w0), (0, fun _ => 0)) else if wh = 1 then ((n1, w1), (0, fun _ => 0)) else ((n0, w0), (n1, w1))
def ph (wh x : Nat) : Nat := if wh = 1 then x * 512 else x
def ps (wh c : Nat) : Nat := if wh = 1 then c * 8 else c
theorem wh3 {wh : Nat} (h : wh < 3) : wh = 0 ∨ wh = 1 ∨ wh = 2 := by omega
section
variable {wh n0 m0 t0 n1 m1 t1 : Nat} {w0 w1 : Nat → Nat} {st mk tk pu go cl : Nat → Int32}
theorem syM_ok (hw : wh < 3) (M : MdOk n0 m0 t0 w0 n1 m1 t1 w1 st mk tk pu go cl) : SyOk (syM wh n0 w0 n1 w1) := by
  obtain ⟨W0, W1, _⟩ := M
  rcases wh3 hw with rfl | rfl | rfl
  · exact ⟨W0.1, W0.2.1, by show 0 ≤ 3; omega, W0.2.2.2.2.2.1, fun _ => Rn_0 0⟩
  · exact ⟨W1.1, W1.2.1, by show 0 ≤ 3; omega, W1.2.2.2.2.2.1, fun _ => Rn_0 0⟩
  · exact ⟨W0.1, W0.2.1, W1.2.1, W0.2.2.2.2.2.1, W1.2.2.2.2.2.1⟩
theorem R2_1 {y : Sy} {x : Nat} (hx : R2 y x) (h : y.2 = (0, fun _ => 0)) : x < 512 := R2_hi hx (by rw [h])
theorem S2_1 {y : Sy} {c : Nat} (hc : S2 y c) (h : y.2 = (0, fun _ => 0)) : c < 8 := S2_hi hc (by rw [h])
theorem ph_lt {y : Sy} (hw : wh < 3) (hy : y = syM wh n0 w0 n1 w1) {x : Nat} (hx : R2 y x) : ph wh x < 262144 := by
  subst hy
  rcases wh3 hw with rfl | rfl | rfl
  · exact hx.1
  · have := R2_1 hx rfl; show x * 512 < 262144; omega
  · exact hx.1
theorem ps_lt {y : Sy} (hw : wh < 3) (hy : y = syM wh n0 w0 n1 w1) {c : Nat} (hc : S2 y c) : ps wh c < 64 := by
  subst hy
  rcases wh3 hw with rfl | rfl | rfl
  · exact hc.1
  · have := S2_1 hc rfl; show c * 8 < 64; omega
  · exact hc.1
theorem ph_inj {x z : Nat} (h : ph wh x = ph wh z) : x = z := by
  unfold ph at h; split at h <;> omega
theorem ps_inj {x z : Nat} (h : ps wh x = ps wh z) : x = z := by
  unfold ps at h; split at h <;> omega
theorem m_itself (hw : wh < 3) (M : MdOk n0 m0 t0 w0 n1 m1 t1 w1 st mk tk pu go cl) {K : Int32 → Prop} (h : K (nI (ph wh (sE (syM wh n0 w0 n1 w1))))) : wX12_itself (nI wh) st K := by
  obtain ⟨W0, W1, A, s0, s1, _⟩ := M
  refine q_itself hw W0.2.1 W1.2.1 s0 s1 ?_
  have e : cm2 wh (idn n0) (idn n1) = ph wh (sE (syM wh n0 w0 n1 w1)) := by
    rcases wh3 hw with rfl | rfl | rfl
    · show idn n0 + 512 * 0 = idn n0 + 512 * 0; rfl
    · show 0 + 512 * idn n1 = (idn n1 + 512 * 0) * 512; omega
    · rfl
  rw [e]; exact h
theorem m_plain (hw : wh < 3) (M : MdOk n0 m0 t0 w0 n1 m1 t1 w1 st mk tk pu go cl) {l : Nat} (hl : 2 ≤ l) (hl4 : l < 4) {K : Int32 → Prop} (h : K (nI (ph wh (sP (syM wh n0 w0 n1 w1) l)))) : wX12_plain (nI wh) (nI l) go K := by
  obtain ⟨W0, W1, A, _⟩ := M
  refine q_plain hw (fun j => (W0.2.2.2.2.2.1 j).1) (fun j => (W1.2.2.2.2.2.1 j).1) A hl hl4 ?_
  have e : cm2 wh (w0 (3 * l + 1)) (w1 (3 * l + 1)) = ph wh (sP (syM wh n0 w0 n1 w1) l) := by
    rcases wh3 hw with rfl | rfl | rfl
    · rfl
    · show 0 + 512 * w1 (3 * l + 1) = (w1 (3 * l + 1) + 512 * 0) * 512; omega
    · rfl
  rw [e]; exact h
theorem wrp_zero (a e x : Nat) : wrp (fun _ => 0) a e x = 0 := by
  unfold wrp; rw [thn3_0, thn3_0]; rfl
theorem aln_zero (l : Nat) : aln (fun _ => 0) l = 0 := by unfold aln; split <;> simp
theorem m_block (hw : wh < 3) (M : MdOk n0 m0 t0 w0 n1 m1 t1 w1 st mk tk pu go cl) {a e x : Nat} (ha : a < 2) (he : 4 ≤ e) (he6 : e < 6) (hx : R2 (syM wh n0 w0 n1 w1) x) {K : Int32 → Prop} (h : K (nI (ph wh (sB (syM wh n0 w0 n1 w1) a e x)))) : wX12_block (nI wh) (nI a) (nI (ph wh x)) (nI e) mk pu cl K := by
  obtain ⟨W0, W1, A, _, _, k0, k1, _⟩ := id M
  refine q_block hw W0 W1 A k0 k1 ha he he6 (ph_lt hw rfl hx) ?_
  have e' : cm2 wh (wrp w0 a e (ph wh x)) (wrp w1 a e (ph wh x / 512)) = ph wh (sB (syM wh n0 w0 n1 w1) a e x) := by
    rcases wh3 hw with rfl | rfl | rfl
    · show wrp w0 a e x + 512 * 0 = wrp w0 a e x + 512 * wrp (fun _ => 0) a e (x / 512); rw [wrp_zero]
    · show 0 + 512 * wrp w1 a e (x * 512 / 512) = (wrp w1 a e x + 512 * wrp (fun _ => 0) a e (x / 512)) * 512
      rw [wrp_zero, Nat.mul_div_cancel _ (by omega)]; omega
    · rfl
  rw [e']; exact h
theorem m_opened (hw : wh < 3) (M : MdOk n0 m0 t0 w0 n1 m1 t1 w1 st mk tk pu go cl) {l c : Nat} (hl : l < 2) (hc : S2 (syM wh n0 w0 n1 w1) c) {K : Int32 → Prop} (h : K (nI (ps wh (sA (syM wh n0 w0 n1 w1) l c)))) : wX12_opened (nI wh) (nI l) (nI (ps wh c)) pu K := by
  obtain ⟨W0, W1, A, _⟩ := id M
  refine q_openedM hw A hl (ps_lt hw rfl hc) ?_
  have e' : cs2 wh (img (ps wh c) (aln w0 l)) (img (ps wh c / 8) (aln w1 l)) = ps wh (sA (syM wh n0 w0 n1 w1) l c) := by
    rcases wh3 hw with rfl | rfl | rfl
    · show img c (aln w0 l) + 8 * 0 = img c (aln w0 l) + 8 * img (c / 8) (aln (fun _ => 0) l); rw [aln_zero, img_y0]
    · show 0 + 8 * img (c * 8 / 8) (aln w1 l) = (img c (aln w1 l) + 8 * img (c / 8) (aln (fun _ => 0) l)) * 8
      rw [aln_zero, img_y0, Nat.mul_div_cancel _ (by omega)]; omega
    · rfl
  rw [e']; exact h
theorem m_closedOff (hw : wh < 3) (M : MdOk n0 m0 t0 w0 n1 m1 t1 w1 st mk tk pu go cl) {l c : Nat} (hl : 4 ≤ l) (hl6 : l < 6) (hc : S2 (syM wh n0 w0 n1 w1) c) {K : Int32 → Prop} (h : K (nI (ps wh (sA (syM wh n0 w0 n1 w1) l c)))) : wX12_closedOff (nI wh) (nI l) (nI (ps wh c)) cl K := by
  obtain ⟨W0, W1, A, _⟩ := id M
  refine q_closedOffM hw A hl hl6 (ps_lt hw rfl hc) ?_
  have e' : cs2 wh (img (ps wh c) (aln w0 l)) (img (ps wh c / 8) (aln w1 l)) = ps wh (sA (syM wh n0 w0 n1 w1) l c) := by
    rcases wh3 hw with rfl | rfl | rfl
    · show img c (aln w0 l) + 8 * 0 = img c (aln w0 l) + 8 * img (c / 8) (aln (fun _ => 0) l); rw [aln_zero, img_y0]
    · show 0 + 8 * img (c * 8 / 8) (aln w1 l) = (img c (aln w1 l) + 8 * img (c / 8) (aln (fun _ => 0) l)) * 8
      rw [aln_zero, img_y0, Nat.mul_div_cancel _ (by omega)]; omega
    · rfl
  rw [e']; exact h
theorem thn3_m512 {x z : Nat} : thn3 (x * 512) z = 0 := by rw [← thn3_modl, show x * 512 % 512 = 0 from by omega, thn3_0]
theorem m_follow (hw : wh < 3) {x z : Nat} (hx : R2 (syM wh n0 w0 n1 w1) x) (hz : R2 (syM wh n0 w0 n1 w1) z) {K : Int32 → Prop} (h : K (nI (ph wh (thn x z)))) : wX12_follow (nI (ph wh x)) (nI (ph wh z)) K := by
  refine q_follow (ph_lt hw rfl hx) (ph_lt hw rfl hz) ?_
  have e' : thn (ph wh x) (ph wh z) = ph wh (thn x z) := by
    rcases wh3 hw with rfl | rfl | rfl
    · rfl
    · have hx' := R2_1 hx rfl
      have hz' := R2_1 hz rfl
      show thn3 (x * 512) (z * 512) + 512 * thn3 (x * 512 / 512) (z * 512 / 512) = (thn3 x z + 512 * thn3 (x / 512) (z / 512)) * 512
      rw [thn3_m512, Nat.mul_div_cancel _ (by omega), Nat.mul_div_cancel _ (by omega), show x / 512 = 0 from by omega, thn3_0]
      omega
    · rfl
  rw [e']; exact h
theorem m_image (hw : wh < 3) {c z : Nat} (hc : S2 (syM wh n0 w0 n1 w1) c) (hz : R2 (syM wh n0 w0 n1 w1) z) {K : Int32 → Prop} (h : K (nI (ps wh (imc c z)))) : wX12_image (nI (ps wh c)) (nI (ph wh z)) K := by
  refine q_imageM (ps_lt hw rfl hc) (ph_lt hw rfl hz) ?_
  have e' : imc (ps wh c) (ph wh z) = ps wh (imc c z) := by
    rcases wh3 hw with rfl | rfl | rfl
    · rfl
    · have hc' := S2_1 hc rfl
      show img (c * 8) (z * 512) + 8 * img (c * 8 / 8) (z * 512 / 512) = (img c z + 8 * img (c / 8) (z / 512)) * 8
      rw [← img_mod (c * 8), show c * 8 % 8 = 0 from by omega, img_0, Nat.mul_div_cancel _ (by omega), Nat.mul_div_cancel _ (by omega), show c / 8 = 0 from by omega, img_0]
      omega
    · rfl
  rw [e']; exact h
theorem m_begun (hw : wh < 3) (M : MdOk n0 m0 t0 w0 n1 m1 t1 w1 st mk tk pu go cl) {K : Int32 → Prop} (h : K (nI (ps wh (s0 (syM wh n0 w0 n1 w1))))) : wX12_begun (nI wh) K := by
  refine q_begun hw ?_
  have e' : cs2 wh 1 1 = ps wh (s0 (syM wh n0 w0 n1 w1)) := by
    rcases wh3 hw with rfl | rfl | rfl
    · rfl
    · rfl
    · show 1 + 8 * 1 = 1 + 8 * (if n1 = 0 then 0 else 1)
      rw [if_neg (by have := M.2.1.1; omega)]
  rw [e']; exact h
end
