theorem and_ne {a b : Nat} : a &&& b ≠ 0 ↔ ∃ q, a.testBit q = true ∧ b.testBit q = true := by
  constructor
  · intro g
    apply Classical.byContradiction
    intro hno
    apply g
    apply Nat.eq_of_testBit_eq
    intro i
    rw [show (0 : Nat).testBit i = false from by simp, Nat.testBit_and]
    cases e1 : a.testBit i
    · rfl
    · cases e2 : b.testBit i
      · rfl
      · exact absurd ⟨i, e1, e2⟩ hno
  · rintro ⟨q, h1, h2⟩ g
    have : (a &&& b).testBit q = true := by rw [Nat.testBit_and, h1, h2]; rfl
    rw [g] at this
    simp at this
/-- the end of watching: what has come, and whether it is taken -/
abbrev watE (KK : Prop → Prop) (k t : Nat) (co : Nat → Int32) (v : Int32) (Q : Int32 → Prop) : Prop := ∀ x : Int32, x = v → KK (wX9_comeAt (nI k) co (fun r => wX5_takesAny r (nI t) (fun r0 => (r0 = 0 → ∀ z : Int32, z = (x ||| (0 : Int32)) → Q z) ∧ (¬ r0 = 0 → ∀ z : Int32, z = (x ||| (4 : Int32)) → Q z))))
theorem wat_one {KK : Prop → Prop} (hKK : ∀ {X : Prop}, X → KK X) {n m t : Nat} {w : Nat → Nat} (W : WfR n m t w) {z : Nat} {lt : Nat → Nat} {ls bs : Nat → Int32} (R : RowC z lt ls bs) {k : Nat} (hk : k ≤ z) {B c : Nat} (hB : B < 1073741824) (hc : c < 1073741824) {fl0 co0 : Int64} {pz0 ed0 sn0 wz0 ws0 wsp0 : Int32} {pa0 so0 wa0 nx0 ar0 pl0 sl0 im0 : Nat → Int32} {sp0 : Nat → Int64} (P0 : PInv (y1 n w) 8 B c fl0 co0 pz0 ed0 sn0 wz0 ws0 pa0 so0 wa0 nx0 ar0 pl0 sl0 im0 sp0) {sm : Int32} {co si : Nat → Int32} {K : Int32 → Int32 → (Nat → Int32) → (Nat → Int32) → Int64 → Int64 → Int32 → Int32 → Int32 → Int32 → Int32 → Int32 → (Nat → Int32) → (Nat → Int32) → (Nat → Int32) → (Nat → Int32) → (Nat → Int32) → (Nat → Int32) → (Nat → Int32) → (Nat → Int32) → (Nat → Int64) → Prop}
    (h : ∀ v sm co si, watV (y1 n w) t lt k v → ∀ fl3 co3 pz3 ed3 sn3 wz3 ws3 wsp3 pa3 so3 wa3 nx3 ar3 pl3 sl3 im3 sp3, PInv (y1 n w) 8 (B + 1) c fl3 co3 pz3 ed3 sn3 wz3 ws3 pa3 so3 wa3 nx3 ar3 pl3 sl3 im3 sp3 → PUp ed0 sn0 wz0 ws0 pa0 wa0 ed3 sn3 wz3 ws3 pa3 wa3 → K v sm co si fl3 co3 pz3 ed3 sn3 wz3 ws3 wsp3 pa3 so3 wa3 nx3 ar3 pl3 sl3 im3 sp3) :
    wX4_areSpent fl0 co0 pz0 ed0 sn0 (nI 0) (nI n) (nI m) (nI c) (fun j => nI (w j)) (nI n) (nI m) (nI c) (fun j => nI (w j)) wz0 ws0 wsp0 pa0 so0 wa0 nx0 ar0 pl0 sl0 im0 sp0 8 (fun r fl3 co3 pz3 ed3 sn3 wz3 ws3 wsp3 pa3 so3 wa3 nx3 ar3 pl3 sl3 im3 sp3 => (r = 0 → KK (wX9_follow (nI k) sm co si (nI n) (nI m) (fun j => nI (w j)) (nI z) ls bs (fun s6 c7 i8 => wX4_codesAhead (nI k) fl3 (fun j => nI (w j)) (fun j => nI (w j)) wz3 ws3 pa3 nx3 ar3 sl3 im3 sp3 c7 i8 (nI z) ls bs 8 (fun r9 f0 m1 p2 => wX4_held (wX1_takenByOne (nI 0) (nI t) (fun r4 =>
      (lg_cmp (r9 &&& r4) (0 : Int64) = 0 → ((lg_cmp (r9 &&& (r4 ^^^ (-1 : Int64))) (0 : Int64) = 0 → watE KK k t c7 ((0 : Int32) ||| 0) (fun x => K x s6 c7 i8 f0 co3 pz3 ed3 sn3 wz3 ws3 wsp3 pa3 so3 wa3 nx3 ar3 pl3 sl3 m1 p2)) ∧ (¬ lg_cmp (r9 &&& (r4 ^^^ (-1 : Int64))) (0 : Int64) = 0 → watE KK k t c7 ((0 : Int32) ||| 2) (fun x => K x s6 c7 i8 f0 co3 pz3 ed3 sn3 wz3 ws3 wsp3 pa3 so3 wa3 nx3 ar3 pl3 sl3 m1 p2)))) ∧
      (¬ lg_cmp (r9 &&& r4) (0 : Int64) = 0 → ((lg_cmp (r9 &&& (r4 ^^^ (-1 : Int64))) (0 : Int64) = 0 → watE KK k t c7 ((1 : Int32) ||| 0) (fun x => K x s6 c7 i8 f0 co3 pz3 ed3 sn3 wz3 ws3 wsp3 pa3 so3 wa3 nx3 ar3 pl3 sl3 m1 p2)) ∧ (¬ lg_cmp (r9 &&& (r4 ^^^ (-1 : Int64))) (0 : Int64) = 0 → watE KK k t c7 ((1 : Int32) ||| 2) (fun x => K x s6 c7 i8 f0 co3 pz3 ed3 sn3 wz3 ws3 wsp3 pa3 so3 wa3 nx3 ar3 pl3 sl3 m1 p2)))))))))) ∧ (¬ r = 0 → K (-6) sm co si fl3 co3 pz3 ed3 sn3 wz3 ws3 wsp3 pa3 so3 wa3 nx3 ar3 pl3 sl3 im3 sp3)) := by
  have hok := y1_ok W
  have hz := R.1
  have h6 := R.2.1
  refine q_areSpent (HeldOk_one W W) (show 8 = if 0 = 0 then 8 else 64 from rfl) hB (show c + 0 * c < 1073741824 by omega) (by rw [Nat.zero_mul, Nat.add_zero]; exact P0) (fun r fl3 co3 pz3 ed3 sn3 wz3 ws3 wsp3 pa3 so3 wa3 nx3 ar3 pl3 sl3 im3 sp3 P3 hr U => ?_)
  rw [Nat.zero_mul, Nat.add_zero] at P3
  rcases hr with ⟨er, hS⟩ | ⟨er, hG⟩
  · rw [er]
    exact ⟨fun g => absurd g (by decide), fun _ => h _ _ _ _ (.inl ⟨Big_not_le hS, rfl⟩) fl3 co3 pz3 ed3 sn3 wz3 ws3 wsp3 pa3 so3 wa3 nx3 ar3 pl3 sl3 im3 sp3 P3 U.2⟩
  · rw [er]
    refine ⟨fun _ => hKK ?_, fun g => absurd rfl g⟩
    have nb := PcS_G hG
    obtain ⟨sz, st, pr, wo, fn, cn, n', e1, e2, G, e3, F, e4, cl, hcn, hf, e5, n60, ef⟩ := hG
    subst e1; subst e2; subst e3; subst e4; subst e5
    refine q_followC W R hk (fun co' si' H => ?_)
    refine q_codesAhead W R hk H G F hcn hf (fun a fl' im' sp' ha hab hNS F' hf' => ?_)
    have nc : (∀ q, a.testBit q = true → q < 8) ∧ ∀ q, a.testBit q = true ↔ LVc (y1 n w) (fun p => p = ((rsy (y1 n w) lt k).1, (rsy (y1 n w) lt k).2.1)) (rsy (y1 n w) lt k).2.2 q := by
      have er := (rsy_one W.1 W.2.2.2.2.2.1 (lt := lt) k).1
      have er : rsy (y1 n w) lt k = rsm w n lt k := er
      have e : ∀ q, a.testBit q = true ↔ LVc (y1 n w) (fun p => p = ((rsy (y1 n w) lt k).1, (rsy (y1 n w) lt k).2.1)) (rsy (y1 n w) lt k).2.2 q := fun q => by
        rw [hab, er, ← unb_stS W]
        refine (LVc_ACs hok (WhOk_Enum G) (stS w n lt k) _ _ _ (fun e he => ?_) (fun x hx => by rw [hx]; exact NS_WS hok (one_NS W h6 k).1) (fun p => ?_) q).symm
        · unfold stS at he
          obtain ⟨o, ho, eo⟩ := List.mem_map.1 he
          rw [← eo]
          refine ⟨?_, NS_WS hok (one_NS W h6 o).1⟩
          exact stk_lt2 lt k o ho
        · constructor
          · intro e
            refine ⟨_, rfl, ?_⟩
            rw [e, imc_one (cs_lt W lt _).1 (cs_lt W lt k).2, ← cm_bas W lt k]
            rfl
          · rintro ⟨x, hx, e⟩
            rw [e, hx, imc_one (cs_lt W lt _).1 (cs_lt W lt k).2, ← cm_bas W lt k]
            rfl
      refine ⟨fun q hq => ?_, e⟩
      obtain ⟨x, d, hx⟩ := hNS q hq
      exact S2_1 (NS_S2 hok hx) rfl
    unfold wX4_held
    refine q_tkOne (.inl rfl) (fun T hT eT => ?_)
    have Tb : ∀ q, a.testBit q = true → T.testBit q = tkB t q := fun q hq => by
      have l8 := nc.1 q hq
      rw [eT, if_pos rfl, decide_eq_true l8, Bool.true_and, show q % 8 = q from by omega]
    have L : ∀ q, LVc (y1 n w) (fun p => p = ((rsy (y1 n w) lt k).1, (rsy (y1 n w) lt k).2.1)) (rsy (y1 n w) lt k).2.2 q ↔ a.testBit q = true := fun q => (nc.2 q).symm
    have i1 : (¬ lg_cmp (lN a &&& lN T) (0 : Int64) = 0) ↔ ∃ q, LVc (y1 n w) (fun p => p = ((rsy (y1 n w) lt k).1, (rsy (y1 n w) lt k).2.1)) (rsy (y1 n w) lt k).2.2 q ∧ tkB t q = true := by
      rw [lN_and, q_lg, show (0 : Int64) = lN 0 from rfl, lN_inj (Nat.lt_of_le_of_lt Nat.and_le_left ha) (by omega), ← ne_eq, and_ne]
      constructor
      · rintro ⟨q, h1, h2⟩
        exact ⟨q, (L q).2 h1, by rw [← Tb q h1]; exact h2⟩
      · rintro ⟨q, h1, h2⟩
        have h1 := (L q).1 h1
        exact ⟨q, h1, by rw [Tb q h1]; exact h2⟩
    have i2 : (¬ lg_cmp (lN a &&& (lN T ^^^ (-1 : Int64))) (0 : Int64) = 0) ↔ ∃ q, LVc (y1 n w) (fun p => p = ((rsy (y1 n w) lt k).1, (rsy (y1 n w) lt k).2.1)) (rsy (y1 n w) lt k).2.2 q ∧ tkB t q = false := by
      rw [q_m1L, lNxor, lN_and, q_lg, show (0 : Int64) = lN 0 from rfl, lN_inj (Nat.lt_of_le_of_lt Nat.and_le_left ha) (by omega), ← ne_eq, and_ne]
      have x1 : ∀ q, a.testBit q = true → (T ^^^ 18446744073709551615).testBit q = !tkB t q := fun q hq => by
        have l8 := nc.1 q hq
        rw [Nat.testBit_xor, tb_all, Tb q hq, decide_eq_true (show q < 64 by omega)]
        cases tkB t q <;> rfl
      constructor
      · rintro ⟨q, h1, h2⟩
        rw [x1 q h1] at h2
        exact ⟨q, (L q).2 h1, by cases e : tkB t q <;> rw [e] at h2 <;> simp at h2 ⊢⟩
      · rintro ⟨q, h1, h2⟩
        have h1 := (L q).1 h1
        exact ⟨q, h1, by rw [x1 q h1, h2]; rfl⟩
    have fin : ∀ b, b < 4 → (b % 2 = 1 ↔ ∃ q, LVc (y1 n w) (fun p => p = ((rsy (y1 n w) lt k).1, (rsy (y1 n w) lt k).2.1)) (rsy (y1 n w) lt k).2.2 q ∧ tkB t q = true) → (b / 2 = 1 ↔ ∃ q, LVc (y1 n w) (fun p => p = ((rsy (y1 n w) lt k).1, (rsy (y1 n w) lt k).2.1)) (rsy (y1 n w) lt k).2.2 q ∧ tkB t q = false) → ∀ v, v = nI b → watE KK k t co' v (fun x => K x (nI (idn n)) co' si' (lN fl') (lN cn) (nI n') ed3 sn3 (nI sz) (nI st) wsp3 pa3 so3 wa3 nx3 ar3 pl3 sl3 im' sp') := by
      intro b hb b1 b2 v ev x ex
      refine hKK (q_comeAt (by omega) (H k (Nat.le_refl k)).1 (q_takesAny (cs_lt W lt k).1 ?_))
      have U' := U.2
      obtain ⟨e, s, ee, es, he, hs, hv⟩ := id P3
      have P' : PInv (y1 n w) 8 (B + 1) c (lN fl') (lN cn) (nI n') ed3 sn3 (nI sz) (nI st) pa3 so3 wa3 nx3 ar3 pl3 sl3 im' sp' := ⟨e, s, ee, es, he, hs, fun _ _ => .inr ⟨sz, st, pr, wo, fl', cn, n', rfl, rfl, G, rfl, F', rfl, cl, hcn, hf', rfl, n60, ef⟩⟩
      have er := (rsy_one W.1 W.2.2.2.2.2.1 (lt := lt) k).1
      have er : rsy (y1 n w) lt k = rsm w n lt k := er
      have fn : ∀ d, d = (if tkB t (cmA w n lt k) then 4 else 0) → ∀ x, x = nI (d ||| b) → K x (nI (idn n)) co' si' (lN fl') (lN cn) (nI n') ed3 sn3 (nI sz) (nI st) wsp3 pa3 so3 wa3 nx3 ar3 pl3 sl3 im' sp' := fun d ed x ex => h _ _ _ _ (.inr ⟨nb, b, ⟨hb, b1, b2⟩, by rw [ex, ed, er]; rfl⟩) _ _ _ _ _ _ _ _ _ _ _ _ _ _ _ _ _ P' U'
      by_cases g : cmA w n lt k &&& t = 0
      · rw [if_pos g]
        refine ⟨fun _ z ez => fn 0 ?_ z ?_, fun g => absurd rfl g⟩
        · unfold tkB; rw [g]; rfl
        · rw [ez, ex, ev, show (0 : Int32) = nI 0 from rfl, q_or, Nat.or_comm]
      · rw [if_neg g]
        refine ⟨fun g => absurd g (by decide), fun _ z ez => fn 4 ?_ z ?_⟩
        · unfold tkB; rw [if_pos]; simpa using g
        · rw [ez, ex, ev, show (4 : Int32) = nI 4 from rfl, q_or, Nat.or_comm]
    refine ⟨fun g1 => ⟨fun g2 => ?_, fun g2 => ?_⟩, fun g1 => ⟨fun g2 => ?_, fun g2 => ?_⟩⟩
    · exact fin 0 (by omega) ⟨fun g => absurd g (by decide), fun g => absurd g1 (i1.2 g)⟩ ⟨fun g => absurd g (by decide), fun g => absurd g2 (i2.2 g)⟩ _ rfl
    · exact fin 2 (by omega) ⟨fun g => absurd g (by decide), fun g => absurd g1 (i1.2 g)⟩ ⟨fun _ => i2.1 g2, fun _ => rfl⟩ _ rfl
    · exact fin 1 (by omega) ⟨fun _ => i1.1 g1, fun _ => rfl⟩ ⟨fun g => absurd g (by decide), fun g => absurd g2 (i2.2 g)⟩ _ rfl
    · exact fin 3 (by omega) ⟨fun _ => i1.1 g1, fun _ => rfl⟩ ⟨fun _ => i2.1 g2, fun _ => rfl⟩ _ rfl
theorem c_watch {n0 m0 t0 n1 m1 t1 : Nat} {w0 w1 : Nat → Nat} (W0 : WfR n0 m0 t0 w0) (W1 : WfR n1 m1 t1 w1) {z : Nat} {lt : Nat → Nat} {ls bs : Nat → Int32} (R : RowC z lt ls bs) {B c0 c1 : Nat} (hB : B < 1073741824) (h0 : c0 < 1073741824) (hc1 : c1 < 1073741824) {fl0 co0 : Int64} {pz0 ed0 sn0 wz0 ws0 wsp0 : Int32} {pa0 so0 wa0 nx0 ar0 pl0 sl0 im0 : Nat → Int32} {sp0 : Nat → Int64} {fl1 co1 : Int64} {pz1 ed1 sn1 wz1 ws1 wsp1 : Int32} {pa1 so1 wa1 nx1 ar1 pl1 sl1 im1 : Nat → Int32} {sp1 : Nat → Int64}
    (P0 : PInv (syM 0 n0 w0 n1 w1) 8 B c0 fl0 co0 pz0 ed0 sn0 wz0 ws0 pa0 so0 wa0 nx0 ar0 pl0 sl0 im0 sp0) (P1 : PInv (syM 1 n0 w0 n1 w1) 8 B c1 fl1 co1 pz1 ed1 sn1 wz1 ws1 pa1 so1 wa1 nx1 ar1 pl1 sl1 im1 sp1) {x p sm : Int32} {co si : Nat → Int32} {K : Int32 → Int32 → (Nat → Int32) → (Nat → Int32) → Int64 → Int64 → Int32 → Int32 → Int32 → Int32 → Int32 → Int32 → (Nat → Int32) → (Nat → Int32) → (Nat → Int32) → (Nat → Int32) → (Nat → Int32) → (Nat → Int32) → (Nat → Int32) → (Nat → Int32) → (Nat → Int64) → Int64 → Int64 → Int32 → Int32 → Int32 → Int32 → Int32 → Int32 → (Nat → Int32) → (Nat → Int32) → (Nat → Int32) → (Nat → Int32) → (Nat → Int32) → (Nat → Int32) → (Nat → Int32) → (Nat → Int32) → (Nat → Int64) → Prop}
    (h1 : ∀ r k v, r < 2 → x = nI r → k ≤ z → p = nI k → watV (syM r n0 w0 n1 w1) (sel r t0 t1) lt k v → ∀ sm co si fl3 co3 pz3 ed3 sn3 wz3 ws3 wsp3 pa3 so3 wa3 nx3 ar3 pl3 sl3 im3 sp3 fl4 co4 pz4 ed4 sn4 wz4 ws4 wsp4 pa4 so4 wa4 nx4 ar4 pl4 sl4 im4 sp4, PInv (syM 0 n0 w0 n1 w1) 8 (B + 1) c0 fl3 co3 pz3 ed3 sn3 wz3 ws3 pa3 so3 wa3 nx3 ar3 pl3 sl3 im3 sp3 → PInv (syM 1 n0 w0 n1 w1) 8 (B + 1) c1 fl4 co4 pz4 ed4 sn4 wz4 ws4 pa4 so4 wa4 nx4 ar4 pl4 sl4 im4 sp4 → PUp ed0 sn0 wz0 ws0 pa0 wa0 ed3 sn3 wz3 ws3 pa3 wa3 → PUp ed1 sn1 wz1 ws1 pa1 wa1 ed4 sn4 wz4 ws4 pa4 wa4 → K v sm co si fl3 co3 pz3 ed3 sn3 wz3 ws3 wsp3 pa3 so3 wa3 nx3 ar3 pl3 sl3 im3 sp3 fl4 co4 pz4 ed4 sn4 wz4 ws4 wsp4 pa4 so4 wa4 nx4 ar4 pl4 sl4 im4 sp4)
    (h3 : ∀ r, r < 2 → x = nI r → (∀ k, k ≤ z → p ≠ nI k) → K (-nI 3) sm co si fl0 co0 pz0 ed0 sn0 wz0 ws0 wsp0 pa0 so0 wa0 nx0 ar0 pl0 sl0 im0 sp0 fl1 co1 pz1 ed1 sn1 wz1 ws1 wsp1 pa1 so1 wa1 nx1 ar1 pl1 sl1 im1 sp1)
    (h2 : (∀ r, r < 2 → x ≠ nI r) → K (-nI 2) sm co si fl0 co0 pz0 ed0 sn0 wz0 ws0 wsp0 pa0 so0 wa0 nx0 ar0 pl0 sl0 im0 sp0 fl1 co1 pz1 ed1 sn1 wz1 ws1 wsp1 pa1 so1 wa1 nx1 ar1 pl1 sl1 im1 sp1) :
    wX11_watch x p (nI n0) (nI m0) (nI t0) (nI c0) (fun j => nI (w0 j)) (nI n1) (nI m1) (nI t1) (nI c1) (fun j => nI (w1 j)) (nI z) ls bs sm co si fl0 co0 pz0 ed0 sn0 (nI 0) wz0 ws0 wsp0 pa0 so0 wa0 nx0 ar0 pl0 sl0 im0 sp0 fl1 co1 pz1 ed1 sn1 (nI 0) wz1 ws1 wsp1 pa1 so1 wa1 nx1 ar1 pl1 sl1 im1 sp1 K := by
  have hz := R.1
  unfold wX11_watch
  refine c_isR (fun r hr e => ⟨fun g => absurd g (by decide), fun _ => ?_⟩) (fun g => ⟨fun _ => h2 g, fun g => absurd rfl g⟩)
  refine c_behind hz (fun k hk ek => ⟨fun g => absurd g (by decide), fun _ => ?_⟩) (fun g => ⟨fun _ => h3 r hr e g, fun g => absurd rfl g⟩)
  have P0' := PInv_mono P0 (B' := B + 1) (by omega)
  have P1' := PInv_mono P1 (B' := B + 1) (by omega)
  refine c_pof (wh := r) (by omega) e (fun e2 => ?_) (fun e2 => ?_) (fun e2 => by omega)
  · subst e2; subst ek; subst e
    exact wat_one (KK := fun X => wX11_chosen (nI 0) False X) (fun h => c_chosen (by omega) (fun _ => h) (fun e => by omega)) W0 R hk hB h0 P0 (K := fun v a b c fl3 co3 pz3 ed3 sn3 wz3 ws3 wsp3 pa3 so3 wa3 nx3 ar3 pl3 sl3 im3 sp3 => K v a b c fl3 co3 pz3 ed3 sn3 wz3 ws3 wsp3 pa3 so3 wa3 nx3 ar3 pl3 sl3 im3 sp3 fl1 co1 pz1 ed1 sn1 wz1 ws1 wsp1 pa1 so1 wa1 nx1 ar1 pl1 sl1 im1 sp1) (fun v a b c hv fl3 co3 pz3 ed3 sn3 wz3 ws3 wsp3 pa3 so3 wa3 nx3 ar3 pl3 sl3 im3 sp3 P3 U => h1 0 k v (by omega) rfl hk rfl hv a b c fl3 co3 pz3 ed3 sn3 wz3 ws3 wsp3 pa3 so3 wa3 nx3 ar3 pl3 sl3 im3 sp3 fl1 co1 pz1 ed1 sn1 wz1 ws1 wsp1 pa1 so1 wa1 nx1 ar1 pl1 sl1 im1 sp1 P3 P1' U (PUp_r _ _ _ _ _ _))
  · subst e2; subst ek; subst e
    exact wat_one (KK := fun X => wX11_chosen (nI 1) X False) (fun h => c_chosen (by omega) (fun e => by omega) (fun _ => h)) W1 R hk hB hc1 P1 (K := fun v a b c fl3 co3 pz3 ed3 sn3 wz3 ws3 wsp3 pa3 so3 wa3 nx3 ar3 pl3 sl3 im3 sp3 => K v a b c fl0 co0 pz0 ed0 sn0 wz0 ws0 wsp0 pa0 so0 wa0 nx0 ar0 pl0 sl0 im0 sp0 fl3 co3 pz3 ed3 sn3 wz3 ws3 wsp3 pa3 so3 wa3 nx3 ar3 pl3 sl3 im3 sp3) (fun v a b c hv fl3 co3 pz3 ed3 sn3 wz3 ws3 wsp3 pa3 so3 wa3 nx3 ar3 pl3 sl3 im3 sp3 P3 U => h1 1 k v (by omega) rfl hk rfl hv a b c fl0 co0 pz0 ed0 sn0 wz0 ws0 wsp0 pa0 so0 wa0 nx0 ar0 pl0 sl0 im0 sp0 fl3 co3 pz3 ed3 sn3 wz3 ws3 wsp3 pa3 so3 wa3 nx3 ar3 pl3 sl3 im3 sp3 P0' P3 (PUp_r _ _ _ _ _ _) U)
