def cmpV (y : Sy) (t0 t1 v : Nat) (res : Int32) : Prop :=
  (Big (PS y) ∧ res = -nI 6) ∨ (¬ Big (PS y) ∧ (((∀ q x d, NS y q x d → cmR v (tkB t0 (q % 8)) (tkB t1 (q / 8 % 8)) = true) ∧ res = nI 1) ∨ ((∃ q x d, NS y q x d ∧ cmR v (tkB t0 (q % 8)) (tkB t1 (q / 8 % 8)) = false) ∧ res = nI 0)))
theorem cmpV_det {y : Sy} {t0 t1 v : Nat} {r r' : Int32} (h : cmpV y t0 t1 v r) (h' : cmpV y t0 t1 v r') : r = r' := by
  rcases h with ⟨b, e⟩ | ⟨b, ⟨g, e⟩ | ⟨⟨q, x, d, n, g⟩, e⟩⟩ <;> rcases h' with ⟨b', e'⟩ | ⟨b', ⟨g', e'⟩ | ⟨⟨q', x', d', n', g'⟩, e'⟩⟩ <;> first
    | (exact e.trans e'.symm)
    | (exact absurd b b')
    | (exact absurd b' b)
    | (rw [g' _ _ _ n] at g; exact absurd g (by decide))
    | (rw [g _ _ _ n'] at g'; exact absurd g' (by decide))
theorem c_compare {n0 m0 t0 n1 m1 t1 : Nat} {w0 w1 : Nat → Nat} (W0 : WfR n0 m0 t0 w0) (W1 : WfR n1 m1 t1 w1) {B c0 c1 : Nat} (hB : B < 1073741824) (hc : c0 + c1 < 1073741824) {fl2 co2 : Int64} {pz2 ed2 sn2 wz2 ws2 wsp2 : Int32} {pa2 so2 wa2 nx2 ar2 pl2 sl2 im2 : Nat → Int32} {sp2 : Nat → Int64} (P2 : PInv (syM 2 n0 w0 n1 w1) 64 B (c0 + c1) fl2 co2 pz2 ed2 sn2 wz2 ws2 pa2 so2 wa2 nx2 ar2 pl2 sl2 im2 sp2)
    {x : Int32} {K : Int32 → Int64 → Int64 → Int32 → Int32 → Int32 → Int32 → Int32 → Int32 → (Nat → Int32) → (Nat → Int32) → (Nat → Int32) → (Nat → Int32) → (Nat → Int32) → (Nat → Int32) → (Nat → Int32) → (Nat → Int32) → (Nat → Int64) → Prop}
    (h1 : ∀ v res, v < 5 → x = nI v → cmpV (syM 2 n0 w0 n1 w1) t0 t1 v res → ∀ fl5 co5 pz5 ed5 sn5 wz5 ws5 wsp5 pa5 so5 wa5 nx5 ar5 pl5 sl5 im5 sp5, PInv (syM 2 n0 w0 n1 w1) 64 (B + 1) (c0 + c1) fl5 co5 pz5 ed5 sn5 wz5 ws5 pa5 so5 wa5 nx5 ar5 pl5 sl5 im5 sp5 → PUp ed2 sn2 wz2 ws2 pa2 wa2 ed5 sn5 wz5 ws5 pa5 wa5 → K res fl5 co5 pz5 ed5 sn5 wz5 ws5 wsp5 pa5 so5 wa5 nx5 ar5 pl5 sl5 im5 sp5)
    (h3 : (∀ v, v < 5 → x ≠ nI v) → K (-nI 3) fl2 co2 pz2 ed2 sn2 wz2 ws2 wsp2 pa2 so2 wa2 nx2 ar2 pl2 sl2 im2 sp2) :
    wX11_compare x (nI n0) (nI m0) (nI t0) (nI c0) (fun j => nI (w0 j)) (nI n1) (nI m1) (nI t1) (nI c1) (fun j => nI (w1 j)) fl2 co2 pz2 ed2 sn2 (nI 1) wz2 ws2 wsp2 pa2 so2 wa2 nx2 ar2 pl2 sl2 im2 sp2 K := by
  unfold wX11_compare
  have lo : x < 0 → K (-nI 3) fl2 co2 pz2 ed2 sn2 wz2 ws2 wsp2 pa2 so2 wa2 nx2 ar2 pl2 sl2 im2 sp2 := fun g => h3 (fun v hv ev => by rw [ev] at g; exact absurd g (nI_pos (by omega)))
  refine ⟨lo, fun g0 => ⟨fun g4 => ?_, fun g4 => h3 (fun v hv ev => g4 (by rw [ev]; exact (q_le (b := 4) (by omega) (by omega)).2 (by omega)))⟩⟩
  have hv : ∃ v, v < 5 ∧ x = nI v := by
    rcases q_between (x := x) (lo := 0) (hi := 4) (by omega) (by omega) with g | g | ⟨v, _, hv, ev⟩
    · exact absurd g g0
    · exfalso
      rw [Int32.lt_iff_toInt_lt] at g
      rw [Int32.le_iff_toInt_le] at g4
      rw [show ((4 : Int32)).toInt = 4 from by decide] at g4
      rw [show (nI 4).toInt = 4 from by decide] at g
      omega
    · exact ⟨v, by omega, ev⟩
  obtain ⟨v, hv, ev⟩ := hv
  subst ev
  have hok : SyOk (syM 2 n0 w0 n1 w1) := HeldOk_Sy (HeldOk_two W0 W1)
  refine q_areSpent (HeldOk_two W0 W1) (show 64 = if n1 = 0 then 8 else 64 by rw [if_neg (by have := W1.1; omega)]) hB (show c0 + 1 * c1 < 1073741824 by omega) (by rw [Nat.one_mul]; exact P2) (fun r fl5 co5 pz5 ed5 sn5 wz5 ws5 wsp5 pa5 so5 wa5 nx5 ar5 pl5 sl5 im5 sp5 P5 hr U => ?_)
  rw [Nat.one_mul] at P5
  rcases hr with ⟨er, hS⟩ | ⟨er, hG⟩
  · rw [er]
    exact ⟨fun g => absurd g (by decide), fun _ => h1 v _ hv rfl (.inl ⟨Big_not_le hS, rfl⟩) fl5 co5 pz5 ed5 sn5 wz5 ws5 wsp5 pa5 so5 wa5 nx5 ar5 pl5 sl5 im5 sp5 P5 U.2⟩
  · rw [er]
    have nb := PcS_G hG
    obtain ⟨sz, st, pr, wo, fn, cn, n, _, _, _, _, _, ec, cl, hcn, _⟩ := hG
    refine ⟨fun _ => ?_, fun g => absurd rfl g⟩
    unfold wX4_held wX4_codes
    refine q_tkOne (.inr rfl) (fun A hA tA => q_tkOther (.inr rfl) (fun C hC tC => c_against hv hA hC (fun D hD tD => ?_)))
    dsimp only
    have e1 : co5 &&& lN D = lN (cn &&& D) := by rw [ec, lN_and]
    rw [e1, q_lg, show (0 : Int64) = lN 0 from rfl, lN_inj (Nat.lt_of_le_of_lt Nat.and_le_left cl) (by omega)]
    have bit : ∀ q x d, NS (syM 2 n0 w0 n1 w1) q x d → q < 64 ∧ cn.testBit q = true ∧ D.testBit q = !cmR v (tkB t0 (q % 8)) (tkB t1 (q / 8 % 8)) := fun q x d hn => by
      have h64 := (NS_S2 hok hn).1
      refine ⟨h64, (hcn q).2 ⟨x, d, hn⟩, ?_⟩
      rw [tD q h64, tA q, tC q, if_neg (by omega), decide_eq_true h64, Bool.true_and, Bool.true_and]
    refine ⟨fun g => h1 v _ hv rfl (.inr ⟨nb, .inl ⟨fun q x d hn => ?_, rfl⟩⟩) fl5 co5 pz5 ed5 sn5 wz5 ws5 wsp5 pa5 so5 wa5 nx5 ar5 pl5 sl5 im5 sp5 P5 U.2, fun g => h1 v _ hv rfl (.inr ⟨nb, .inr ⟨?_, rfl⟩⟩) fl5 co5 pz5 ed5 sn5 wz5 ws5 wsp5 pa5 so5 wa5 nx5 ar5 pl5 sl5 im5 sp5 P5 U.2⟩
    · have b := bit q x d hn
      have : (cn &&& D).testBit q = false := by rw [g]; simp
      rw [Nat.testBit_and, b.2.1, b.2.2, Bool.true_and] at this
      simpa using this
    · rcases Nat.eq_zero_or_pos (cn &&& D) with e | e
      · exact absurd e g
      · have : ∃ q, (cn &&& D).testBit q = true := by
          apply Classical.byContradiction
          intro hno
          apply g
          apply Nat.eq_of_testBit_eq
          intro i
          rw [show (0 : Nat).testBit i = false from by simp]
          cases e2 : (cn &&& D).testBit i
          · rfl
          · exact absurd ⟨i, e2⟩ hno
        obtain ⟨q, hq⟩ := this
        rw [Nat.testBit_and] at hq
        have hq1 : cn.testBit q = true := by cases e2 : cn.testBit q <;> rw [e2] at hq <;> simp at hq ⊢
        have hq2 : D.testBit q = true := by rw [hq1] at hq; simpa using hq
        obtain ⟨x, d, hn⟩ := (hcn q).1 hq1
        refine ⟨q, x, d, hn, ?_⟩
        have b := (bit q x d hn).2.2
        rw [hq2] at b
        cases e2 : cmR v (tkB t0 (q % 8)) (tkB t1 (q / 8 % 8)) <;> rw [e2] at b <;> simp at b ⊢
theorem tk_lo : ∀ q, q < 64 → ∀ t, t < 8 → (nI q >>> ((3 * 0) &&& 31)) &&& nI t = nI (q % 8 &&& t) := by decide +kernel
theorem tk_hi : ∀ q, q < 64 → ∀ t, t < 8 → (nI q >>> ((3 * 1) &&& 31)) &&& nI t = nI (q / 8 % 8 &&& t) := by decide +kernel
theorem p2_8 {n t : Nat} (h3 : n ≤ 3) (h : t < 2 ^ n) : t < 8 := Nat.lt_of_lt_of_le h (Nat.pow_le_pow_right (n := 2) (by omega) h3)
theorem m_take2 {n0 m0 t0 n1 m1 t1 : Nat} {w0 w1 : Nat → Nat} {st mk tk pu go cl : Nat → Int32} (M : MdOk n0 m0 t0 w0 n1 m1 t1 w1 st mk tk pu go cl) {q : Nat} (hq : q < 64) : (∀ {K : Int32 → Prop}, K (nI (if tkB t0 (q % 8) then 1 else 0)) → wX12_doesTake 0 (nI q) tk K) ∧ (∀ {K : Int32 → Prop}, K (nI (if tkB t1 (q / 8 % 8) then 1 else 0)) → wX12_doesTake 1 (nI q) tk K) := by
  obtain ⟨W0, W1, _, _, _, _, _, e0, e1⟩ := M
  have l0 := p2_8 W0.2.1 W0.2.2.2.2.1
  have l1 := p2_8 W1.2.1 W1.2.2.2.2.1
  refine ⟨fun {K} h => ?_, fun {K} h => ?_⟩
  · unfold wX12_doesTake
    refine ⟨(q_in (n := 0) (by omega)).2 (by omega), ?_⟩
    rw [show ((0 : Int32)).toNatClampNeg = 0 from by decide, e0, tk_lo q hq t0 l0, show (nI (q % 8 &&& t0) = (0 : Int32)) = (nI (q % 8 &&& t0) = nI 0) from rfl, q_eq (by have := Nat.and_le_left (n := q % 8) (m := t0); omega) (by omega)]
    unfold tkB at h
    refine ⟨fun g => ?_, fun g => ?_⟩
    · rw [g] at h; exact h
    · have e : (!(q % 8 &&& t0 == 0)) = true := by simp [g]
      rw [e] at h; exact h
  · unfold wX12_doesTake
    refine ⟨(q_in (n := 1) (by omega)).2 (by omega), ?_⟩
    rw [show ((1 : Int32)).toNatClampNeg = 1 from by decide, e1, tk_hi q hq t1 l1, show (nI (q / 8 % 8 &&& t1) = (0 : Int32)) = (nI (q / 8 % 8 &&& t1) = nI 0) from rfl, q_eq (by have := Nat.and_le_left (n := q / 8 % 8) (m := t1); omega) (by omega)]
    unfold tkB at h
    refine ⟨fun g => ?_, fun g => ?_⟩
    · rw [g] at h; exact h
    · have e : (!(q / 8 % 8 &&& t1 == 0)) = true := by simp [g]
      rw [e] at h; exact h
theorem m_compare {n0 m0 t0 n1 m1 t1 : Nat} {w0 w1 : Nat → Nat} {st mk tk pu go cl : Nat → Int32} (M : MdOk n0 m0 t0 w0 n1 m1 t1 w1 st mk tk pu go cl) {x kn sp wz nz pz : Int32} {wo wl co si de lo : Nat → Int32} (C : FPc n0 w0 n1 w1 kn sp wz nz pz wo co si de) {K : Int32 → Int32 → Int32 → Int32 → Int32 → Int32 → (Nat → Int32) → (Nat → Int32) → (Nat → Int32) → (Nat → Int32) → (Nat → Int32) → (Nat → Int32) → Prop}
    (h1 : ∀ v res, v < 5 → x = nI v → cmpV (syM 2 n0 w0 n1 w1) t0 t1 v res → ∀ kn sp wz nz pz wo wl co si de lo, FPc n0 w0 n1 w1 kn sp wz nz pz wo co si de → K res kn sp wz nz pz wo wl co si de lo)
    (h3 : (∀ v, v < 5 → x ≠ nI v) → K (-nI 3) kn sp wz nz pz wo wl co si de lo) :
    wX12_compare x kn sp wz nz pz st mk tk pu go cl wo wl co si de lo K := by
  unfold wX12_compare
  refine q_behind (z := 4) (by omega) (fun v hv e => ⟨fun g => absurd g (by decide), fun _ => ?_⟩) (fun g => ⟨fun _ => h3 (fun v hv => g v (by omega)), fun g => absurd rfl g⟩)
  subst e
  have hok := syM_ok (wh := 2) (by omega) M
  refine m_findPlaces (wh := 2) (by omega) rfl M (C 2 (by omega)) (fun sp wz nz pz wo wl co si de lo F => ?_)
  have C' : FPc n0 w0 n1 w1 (nI 2) sp wz nz pz wo co si de := fun wh' h' e => by
    rw [q_eq (by omega) (by omega)] at e
    subst e
    exact F
  have fin : ∀ res, cmpV (syM 2 n0 w0 n1 w1) t0 t1 v res → K res (nI 2) sp wz nz pz wo wl co si de lo := fun res hr => h1 v res (by omega) rfl hr _ _ _ _ _ _ _ _ _ _ _ C'
  rcases F with ⟨e, hb⟩ | ⟨e, wn, xs, n, nd, p, _, en, ep, hp, _, _, hW, _, _, hE, f, hf⟩
  · rw [e] at fin ⊢
    exact ⟨fun g => absurd g (by decide), fun _ => fin _ (.inl ⟨hb, rfl⟩)⟩
  · have nb : ¬ Big (PS (syM 2 n0 w0 n1 w1)) := fun hb => by have := Enum_Big hf hb; omega
    rw [e, en] at fin ⊢
    refine ⟨fun _ => ?_, fun g => absurd rfl g⟩
    have n120 := hW.1
    let ok : Nat → Bool := fun i => cmR v (tkB t0 ((nd i).1.1 % 8)) (tkB t1 ((nd i).1.1 / 8 % 8))
    unfold wX12_compare_L31
    intro P hP
    have key : ∀ i, i ≤ n → ∀ b : Bool, (b = true ↔ ∀ j, j < i → ok j = true) → P (nI (if b then 1 else 0)) (nI i) := by
      refine fun i hi => q_cnt (Q := fun i => ∀ b : Bool, (b = true ↔ ∀ j, j < i → ok j = true) → P (nI (if b then 1 else 0)) (nI i)) (N := n) ?_ ?_ i hi
      · intro b hb
        refine hP _ _ ⟨fun _ => ?_, fun g => absurd ((q_le (by omega) (by omega)).2 (Nat.le_refl n)) g⟩
        cases b with
        | true =>
          refine ⟨fun g => absurd g (by decide), fun _ => fin _ (.inr ⟨nb, .inl ⟨fun q x d hn => ?_, rfl⟩⟩)⟩
          obtain ⟨j, hj, ej⟩ := hE.2.2 ((q, x), d) hn
          have := hb.1 rfl j hj
          show cmR v (tkB t0 (q % 8)) (tkB t1 (q / 8 % 8)) = true
          have e1 : (nd j).1.1 = q := by rw [ej]
          rw [← e1]; exact this
        | false =>
          refine ⟨fun _ => fin _ (.inr ⟨nb, .inr ⟨?_, rfl⟩⟩), fun g => absurd rfl g⟩
          apply Classical.byContradiction
          intro hno
          have : (false = true) := hb.2 (fun j hj => by
            cases e2 : ok j
            · exact absurd ⟨_, _, _, hE.1 j hj, e2⟩ hno
            · rfl)
          exact absurd this (by decide)
      · intro i hi ih b hb
        refine hP _ _ ⟨fun g => absurd ((q_le (by omega) (by omega)).1 g) (by omega), fun _ => ?_⟩
        have hc := (hW.2.1 i hi).1
        have hn := (hW.2.1 i hi).2.2.2
        have h64 := (NS_S2 hok hn).1
        have mt := m_take2 M h64
        rw [q_in (by omega), q_cl (by omega), hc]
        have nx : ∀ (u : Int32) (b' : Bool), u = nI (if b' then 1 else 0) → (b' = (b && ok i)) → ∀ y : Int32, y = nI i + 1 → P u y := fun u b' eu eb y ey => by
          rw [eu, ey, nI_1]
          refine ih b' ?_
          rw [eb, Bool.and_eq_true, hb]
          constructor
          · rintro ⟨g1, g2⟩ j hj
            by_cases e : j = i
            · rw [e]; exact g2
            · exact g1 j (by omega)
          · intro g
            exact ⟨fun j hj => g j (by omega), g i (by omega)⟩
        refine ⟨by omega, mt.1 ⟨by omega, mt.2 ?_⟩⟩
        have eok : ok i = cmR v (tkB t0 ((nd i).1.1 % 8)) (tkB t1 ((nd i).1.1 / 8 % 8)) := rfl
        generalize tkB t0 ((nd i).1.1 % 8) = a at *
        generalize tkB t1 ((nd i).1.1 / 8 % 8) = c at *
        refine ⟨fun gb => ?_, fun gb => ?_⟩
        · have eb : b = false := by cases b with
            | true => exact absurd gb (by decide)
            | false => rfl
          exact nx _ false rfl (by rw [eb]; rfl)
        · have eb : b = true := by cases b with
            | true => rfl
            | false => exact absurd rfl gb
          have nx : ∀ (u : Int32) (b' : Bool), u = nI (if b' then 1 else 0) → b' = cmR v a c → ∀ y : Int32, y = nI i + 1 → P u y := fun u b' eu e2 => nx u b' eu (by rw [eb, Bool.true_and, eok, e2])
          have o1 : (1 : Int32) ≠ 0 := by decide
          unfold cmR at nx
          rw [show (0 : Int32) = nI 0 from rfl, show (1 : Int32) = nI 1 from rfl, show (2 : Int32) = nI 2 from rfl, show (3 : Int32) = nI 3 from rfl, q_eq (a := v) (b := 0) (by omega) (by omega), q_eq (a := v) (b := 1) (by omega) (by omega), q_eq (a := v) (b := 2) (by omega) (by omega), q_eq (a := v) (b := 3) (by omega) (by omega)]
          refine ⟨fun g => ?_, fun g0 => ⟨fun g => ?_, fun g1 => ⟨fun g => ?_, fun g2 => ⟨fun g => ?_, fun g3 => ?_⟩⟩⟩⟩
          · subst g
            rw [if_pos rfl] at nx
            cases a <;> cases c
            · exact ⟨fun _ => nx _ true rfl rfl, fun g => absurd rfl g⟩
            · exact ⟨fun g => absurd g (by decide), fun _ => nx _ false rfl rfl⟩
            · exact ⟨fun g => absurd g (by decide), fun _ => nx _ false rfl rfl⟩
            · exact ⟨fun _ => nx _ true rfl rfl, fun g => absurd rfl g⟩
          · subst g
            rw [if_neg (by omega), if_pos rfl] at nx
            cases a <;> cases c
            · exact ⟨fun _ => nx _ true rfl rfl, fun g => absurd rfl g⟩
            · exact ⟨fun _ => nx _ true rfl rfl, fun g => absurd rfl g⟩
            · exact ⟨fun g => absurd g (by decide), fun _ => ⟨fun _ => nx _ false rfl rfl, fun g => absurd rfl g⟩⟩
            · exact ⟨fun g => absurd g (by decide), fun _ => ⟨fun g => absurd g (by decide), fun _ => nx _ true rfl rfl⟩⟩
          · subst g
            rw [if_neg (by omega), if_neg (by omega), if_pos rfl] at nx
            cases a <;> cases c
            · exact ⟨fun _ => ⟨fun _ => nx _ true rfl rfl, fun g => absurd rfl g⟩, fun g => absurd rfl g⟩
            · exact ⟨fun _ => ⟨fun g => absurd g (by decide), fun _ => nx _ false rfl rfl⟩, fun g => absurd rfl g⟩
            · exact ⟨fun g => absurd g (by decide), fun _ => nx _ true rfl rfl⟩
            · exact ⟨fun g => absurd g (by decide), fun _ => nx _ true rfl rfl⟩
          · subst g
            rw [if_neg (by omega), if_neg (by omega), if_neg (by omega), if_pos rfl] at nx
            cases a <;> cases c
            · exact ⟨fun _ => nx _ true rfl rfl, fun g => absurd rfl g⟩
            · exact ⟨fun _ => nx _ true rfl rfl, fun g => absurd rfl g⟩
            · exact ⟨fun g => absurd g (by decide), fun _ => ⟨fun _ => nx _ true rfl rfl, fun g => absurd rfl g⟩⟩
            · exact ⟨fun g => absurd g (by decide), fun _ => ⟨fun g => absurd g (by decide), fun _ => nx _ false rfl rfl⟩⟩
          · rw [if_neg g0, if_neg g1, if_neg g2, if_neg g3] at nx
            cases a <;> cases c
            · exact ⟨fun _ => ⟨fun _ => nx _ false rfl rfl, fun g => absurd rfl g⟩, fun g => absurd rfl g⟩
            · exact ⟨fun _ => ⟨fun g => absurd g (by decide), fun _ => nx _ true rfl rfl⟩, fun g => absurd rfl g⟩
            · exact ⟨fun g => absurd g (by decide), fun _ => nx _ true rfl rfl⟩
            · exact ⟨fun g => absurd g (by decide), fun _ => nx _ true rfl rfl⟩
    exact key 0 (by omega) true ⟨fun _ j hj => absurd hj (by omega), fun _ => rfl⟩
