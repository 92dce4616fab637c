def alk (y : Sy) (lt : Nat → Nat) (i j : Nat) : Nat := if (rsy y lt i).1 = (rsy y lt j).1 ∧ (rsy y lt i).2.1 = (rsy y lt j).2.1 then 1 else 0
def alr (w : Nat → Nat) (n : Nat) (lt : Nat → Nat) (i j : Nat) : Nat := if cmA w n lt i = cmA w n lt j ∧ snA w n lt i = snA w n lt j then 1 else 0
theorem alk_1 {y : Sy} {lt : Nat → Nat} {i j : Nat} {w : Nat → Nat} {n : Nat} (h : ∀ k, rsy y lt k = rsm w n lt k) : alk y lt i j = alr w n lt i j := by
  unfold alk alr cmA snA
  rw [h, h]
theorem alk_2 {n0 n1 : Nat} {w0 w1 : Nat → Nat} (hn0 : 1 ≤ n0) (hn1 : 1 ≤ n1) (h0 : ∀ j, Rn n0 (w0 j)) (h1 : ∀ j, Rn n1 (w1 j)) {lt : Nat → Nat} {i j : Nat} : alk (syM 2 n0 w0 n1 w1) lt i j = if alr w0 n0 lt i j = 0 then 0 else alr w1 n1 lt i j := by
  have a := rsy_two hn1 h0 h1 (lt := lt) i
  have b := rsy_two hn1 h0 h1 (lt := lt) j
  unfold alk alr cmA snA
  rw [show syM 2 n0 w0 n1 w1 = ((n0, w0), (n1, w1)) from rfl, a.1, b.1, a.2.1, b.2.1]
  have a3 := a.2.2.1
  have a4 := a.2.2.2.1
  have b3 := b.2.2.1
  have b4 := b.2.2.2.1
  by_cases g0 : (rsm w0 n0 lt i).1 = (rsm w0 n0 lt j).1 ∧ (rsm w0 n0 lt i).2.1 = (rsm w0 n0 lt j).2.1
  · rw [if_pos g0, if_neg (show ¬ (1 = 0) by omega)]
    by_cases g1 : (rsm w1 n1 lt i).1 = (rsm w1 n1 lt j).1 ∧ (rsm w1 n1 lt i).2.1 = (rsm w1 n1 lt j).2.1
    · rw [if_pos g1, if_pos ⟨by omega, by omega⟩]
    · rw [if_neg g1, if_neg (fun h => g1 ⟨by omega, by omega⟩)]
  · rw [if_neg g0, if_pos rfl, if_neg (fun h => g0 ⟨by omega, by omega⟩)]
theorem q_one {n m t : Nat} {w : Nat → Nat} (W : WfR n m t w) {z : Nat} {lt : Nat → Nat} {ls bs : Nat → Int32} (R : RowC z lt ls bs) {i j : Nat} (hi : i ≤ z) (hj : j ≤ z) {sm : Int32} {co si : Nat → Int32} {K : Int32 → Int32 → (Nat → Int32) → (Nat → Int32) → Prop} (h : ∀ sm co si, K (nI (alr w n lt i j)) sm co si) : wX11_isAtOnePlace (nI i) (nI j) (nI z) ls bs sm co si (nI n) (nI m) (fun j => nI (w j)) K := by
  have hz := R.1
  unfold wX11_isAtOnePlace
  intro x1 e1
  have ex : ∃ k, k ≤ z ∧ i ≤ k ∧ j ≤ k ∧ x1 = nI k := by
    by_cases g : i < j
    · rw [if_pos ((q_lt (by omega) (by omega)).2 g)] at e1
      exact ⟨j, hj, by omega, by omega, e1⟩
    · rw [if_neg (fun h => g ((q_lt (by omega) (by omega)).1 h))] at e1
      exact ⟨i, hi, by omega, by omega, e1⟩
  obtain ⟨k, hk, ik, jk, rfl⟩ := ex
  refine q_followC W R hk (fun co' si' H => ?_)
  have cA : ∀ {o : Nat} {K : Int32 → Prop}, o ≤ k → K (nI (cmA w n lt o)) → wX9_comeAt (nI o) co' K := fun {o K} ho h => by
    unfold wX9_comeAt
    rw [q_in (by omega), q_cl (by omega)]
    refine ⟨fun g => absurd g (nI_pos (by omega)), fun _ => ⟨fun g => ?_, fun _ => ⟨by omega, ?_⟩⟩⟩
    · rw [show (25 : Int32) = nI 25 from rfl, q_le (by omega) (by omega)] at g; omega
    · rw [(H o ho).1]; exact h
  have sA : ∀ {o : Nat} {K : Int32 → Prop}, o ≤ k → K (nI (snA w n lt o)) → wX9_sinceAt (nI o) si' K := fun {o K} ho h => by
    unfold wX9_sinceAt
    rw [q_in (by omega), q_cl (by omega)]
    refine ⟨fun g => absurd g (nI_pos (by omega)), fun _ => ⟨fun g => ?_, fun _ => ⟨by omega, ?_⟩⟩⟩
    · rw [show (25 : Int32) = nI 25 from rfl, q_le (by omega) (by omega)] at g; omega
    · rw [(H o ho).2]; exact h
  have bi := cs_lt W lt i
  have bj := cs_lt W lt j
  refine cA ik (cA jk ?_)
  unfold alr at h
  rw [q_eq (by omega) (by omega)]
  refine ⟨fun g => sA ik (sA jk ?_), fun g => ?_⟩
  · rw [q_eq (by omega) (by omega)]
    refine ⟨fun g2 => ?_, fun g2 => ?_⟩
    · rw [if_pos ⟨g, g2⟩] at h; exact h _ _ _
    · rw [if_neg (fun h => g2 h.2)] at h; exact h _ _ _
  · rw [if_neg (fun h => g h.1)] at h; exact h _ _ _
theorem alr_lt (w : Nat → Nat) (n : Nat) (lt : Nat → Nat) (i j : Nat) : alr w n lt i j = 0 ∨ alr w n lt i j = 1 := by unfold alr; split <;> simp
theorem c_alike {n0 m0 t0 n1 m1 t1 : Nat} {w0 w1 : Nat → Nat} (W0 : WfR n0 m0 t0 w0) (W1 : WfR n1 m1 t1 w1) {z : Nat} {lt : Nat → Nat} {ls bs : Nat → Int32} (R : RowC z lt ls bs) {x p q sm : Int32} {co si : Nat → Int32} {K : Int32 → Int32 → (Nat → Int32) → (Nat → Int32) → Prop}
    (h1 : ∀ wh i j, wh < 3 → x = nI wh → i ≤ z → p = nI i → j ≤ z → q = nI j → ∀ sm co si, K (nI (alk (syM wh n0 w0 n1 w1) lt i j)) sm co si)
    (h3 : ∀ wh, wh < 3 → x = nI wh → (∀ i j, i ≤ z → p = nI i → j ≤ z → q ≠ nI j) → K (-nI 3) sm co si)
    (h2 : (∀ wh, wh < 3 → x ≠ nI wh) → K (-nI 2) sm co si) :
    wX11_alike x p q (nI n0) (nI m0) (fun j => nI (w0 j)) (nI n1) (nI m1) (fun j => nI (w1 j)) (nI z) ls bs sm co si K := by
  have hz := R.1
  have e2 : (2 : Int32) = nI 2 := rfl
  have e1 : (1 : Int32) = nI 1 := rfl
  have e0 : (0 : Int32) = nI 0 := rfl
  have r0 : ∀ {K : Int32 → Int32 → (Nat → Int32) → (Nat → Int32) → Prop} {sm : Int32} {co si : Nat → Int32} {i j : Nat}, i ≤ z → j ≤ z → (∀ sm co si, K (nI (alr w0 n0 lt i j)) sm co si) → wX11_isAtOnePlace (nI i) (nI j) (nI z) ls bs sm co si (nI n0) (nI m0) (fun j => nI (w0 j)) K := fun hi hj h => q_one W0 R hi hj h
  have r1 : ∀ {K : Int32 → Int32 → (Nat → Int32) → (Nat → Int32) → Prop} {sm : Int32} {co si : Nat → Int32} {i j : Nat}, i ≤ z → j ≤ z → (∀ sm co si, K (nI (alr w1 n1 lt i j)) sm co si) → wX11_isAtOnePlace (nI i) (nI j) (nI z) ls bs sm co si (nI n1) (nI m1) (fun j => nI (w1 j)) K := fun hi hj h => q_one W1 R hi hj h
  unfold wX11_alike
  refine c_isR (fun r hr e => ⟨fun g => absurd g (by decide), fun _ => ?_⟩) (fun g => ⟨fun _ => ⟨fun g2 => ?_, fun g2 => ?_⟩, fun g => absurd rfl g⟩)
  · subst e
    refine c_behind hz (fun i hi ei => ⟨fun g => absurd g (by decide), fun _ => ?_⟩) (fun g => ⟨fun _ => h3 r (by omega) rfl (fun i j hi ei => absurd ei (g i hi)), fun g => absurd rfl g⟩)
    refine c_behind hz (fun j hj ej => ⟨fun g => absurd g (by decide), fun _ => ?_⟩) (fun g => ⟨fun _ => h3 r (by omega) rfl (fun i j hi ei hj => g j hj), fun g => absurd rfl g⟩)
    subst ei; subst ej
    have hh := h1 r i j (by omega) rfl hi rfl hj rfl
    rw [e1, e0]
    rcases (show r = 0 ∨ r = 1 by omega) with e | e <;> subst e
    · rw [alk_1 (rsy_r (r := 0) (by omega) W0.1 W1.1 W0.2.2.2.2.2.1 W1.2.2.2.2.2.1)] at hh
      have hh : ∀ sm co si, K (nI (alr w0 n0 lt i j)) sm co si := hh
      refine ⟨fun g => absurd ((q_eq (by omega) (by omega)).1 g) (by omega), fun _ => r0 hi hj (fun sm co si => ?_)⟩
      have hh := hh sm co si
      rw [q_eq (by rcases alr_lt w0 n0 lt i j with e | e <;> omega) (by omega)]
      rcases alr_lt w0 n0 lt i j with e | e <;> rw [e] at hh ⊢
      · exact ⟨fun _ => hh, fun g => absurd rfl g⟩
      · exact ⟨fun g => absurd g (by omega), fun _ => ⟨fun _ => hh, fun g => absurd rfl g⟩⟩
    · rw [alk_1 (rsy_r (r := 1) (by omega) W0.1 W1.1 W0.2.2.2.2.2.1 W1.2.2.2.2.2.1)] at hh
      have hh : ∀ sm co si, K (nI (alr w1 n1 lt i j)) sm co si := hh
      refine ⟨fun _ => ⟨fun g => absurd ((q_eq (by omega) (by omega)).1 g) (by omega), fun _ => r1 hi hj (fun sm co si => ?_)⟩, fun g => absurd rfl g⟩
      have hh := hh sm co si
      rw [q_eq (by rcases alr_lt w1 n1 lt i j with e | e <;> omega) (by omega)]
      rcases alr_lt w1 n1 lt i j with e | e <;> rw [e] at hh ⊢
      · exact ⟨fun _ => hh, fun g => absurd rfl g⟩
      · exact ⟨fun g => absurd g (by omega), fun _ => hh⟩
  · rw [e2] at g2
    refine c_behind hz (fun i hi ei => ⟨fun g => absurd g (by decide), fun _ => ?_⟩) (fun g => ⟨fun _ => h3 2 (by omega) g2 (fun i j hi ei => absurd ei (g i hi)), fun g => absurd rfl g⟩)
    refine c_behind hz (fun j hj ej => ⟨fun g => absurd g (by decide), fun _ => ?_⟩) (fun g => ⟨fun _ => h3 2 (by omega) g2 (fun i j hi ei hj => g j hj), fun g => absurd rfl g⟩)
    subst g2; subst ei; subst ej
    have hh := h1 2 i j (by omega) rfl hi rfl hj rfl
    rw [alk_2 W0.1 W1.1 W0.2.2.2.2.2.1 W1.2.2.2.2.2.1] at hh
    rw [e1, e0]
    refine ⟨fun g => absurd ((q_eq (by omega) (by omega)).1 g) (by omega), fun _ => r0 hi hj (fun sm co si => ?_)⟩
    rw [q_eq (by rcases alr_lt w0 n0 lt i j with e | e <;> omega) (by omega)]
    rcases alr_lt w0 n0 lt i j with e | e <;> rw [e] at hh ⊢
    · rw [if_pos rfl] at hh
      exact ⟨fun _ => hh _ _ _, fun g => absurd rfl g⟩
    · rw [if_neg (by omega)] at hh
      refine ⟨fun g => absurd g (by omega), fun _ => ⟨fun g => absurd ((q_eq (by omega) (by omega)).1 g) (by omega), fun _ => r1 hi hj (fun sm co si => ?_)⟩⟩
      have hh := hh sm co si
      rw [q_eq (by rcases alr_lt w1 n1 lt i j with e | e <;> omega) (by omega)]
      rcases alr_lt w1 n1 lt i j with e | e <;> rw [e] at hh ⊢
      · exact ⟨fun _ => hh, fun g => absurd rfl g⟩
      · exact ⟨fun g => absurd g (by omega), fun _ => hh⟩
  · refine h2 (fun wh hw e => ?_)
    by_cases g3 : wh < 2
    · exact g wh g3 e
    · exact g2 (by rw [e, show wh = 2 from by omega]; rfl)
theorem m_alike {n0 m0 t0 n1 m1 t1 : Nat} {w0 w1 : Nat → Nat} {st mk tk pu go cl : Nat → Int32} (M : MdOk n0 m0 t0 w0 n1 m1 t1 w1 st mk tk pu go cl) {z : Nat} {lt : Nat → Nat} (hz : z ≤ 24) (h6 : ∀ i, lt i < 6) {ro : Nat → Int32} (hro : ∀ i, i < z → ro i = nI (lt i)) {x p q a b c : Int32} {sc ss sl : Nat → Int32} {K : Int32 → Int32 → Int32 → Int32 → (Nat → Int32) → (Nat → Int32) → (Nat → Int32) → Prop}
    (h1 : ∀ wh i j, wh < 3 → x = nI wh → i ≤ z → p = nI i → j ≤ z → q = nI j → ∀ a b c sc ss sl, K (nI (alk (syM wh n0 w0 n1 w1) lt i j)) a b c sc ss sl)
    (h3 : ∀ wh, wh < 3 → x = nI wh → (∀ i j, i ≤ z → p = nI i → j ≤ z → q ≠ nI j) → K (-nI 3) a b c sc ss sl)
    (h2 : (∀ wh, wh < 3 → x ≠ nI wh) → K (-nI 2) a b c sc ss sl) :
    wX12_alike x p q (nI z) a b c st mk pu go cl ro sc ss sl K := by
  unfold wX12_alike
  refine q_behind (z := 2) (by omega) (fun wh hw e => ⟨fun g => absurd g (by decide), fun _ => ?_⟩) (fun g => ⟨fun _ => h2 (fun wh hw => g wh (by omega)), fun g => absurd rfl g⟩)
  refine q_behind hz (fun i hi ei => ⟨fun g => absurd g (by decide), fun _ => ?_⟩) (fun g => ⟨fun _ => h3 wh (by omega) e (fun i j hi ei => absurd ei (g i hi)), fun g => absurd rfl g⟩)
  refine q_behind hz (fun j hj ej => ⟨fun g => absurd g (by decide), fun _ => ?_⟩) (fun g => ⟨fun _ => h3 wh (by omega) e (fun i j hi ei hj => g j hj), fun g => absurd rfl g⟩)
  subst e; subst ei; subst ej
  have hok := syM_ok (wh := wh) (by omega) M
  have S : ∀ k, ps wh (rsy (syM wh n0 w0 n1 w1) lt k).1 < 64 ∧ ph wh (rsy (syM wh n0 w0 n1 w1) lt k).2.1 < 262144 := fun k => by
    have := (rsy_ok hok h6 k).1
    exact ⟨ps_lt (by omega) rfl (NS_S2 hok this), ph_lt (by omega) rfl (WS_R2 hok (NS_WS hok this))⟩
  refine m_goRow (by omega) rfl M h6 (by omega) (fun o ho => hro o (by omega)) (fun sc1 ss1 sl1 _ => ?_)
  refine m_goRow (by omega) rfl M h6 (by omega) (fun o ho => hro o (by omega)) (fun sc2 ss2 sl2 _ => ?_)
  have Si := S i
  have Sj := S j
  have hh := h1 wh i j (by omega) rfl hi rfl hj rfl
  unfold alk at hh
  rw [q_eq (by omega) (by omega), q_eq (by omega) (by omega)]
  refine ⟨fun g => ⟨fun g2 => ?_, fun g2 => ?_⟩, fun g => ?_⟩
  · rw [if_pos ⟨(ps_inj g).symm, (ph_inj g2).symm⟩] at hh; exact hh _ _ _ _ _ _
  · rw [if_neg (fun h => g2 (by rw [h.2]))] at hh; exact hh _ _ _ _ _ _
  · rw [if_neg (fun h => g (by rw [h.1]))] at hh; exact hh _ _ _ _ _ _
def cntN (w0 w1 : Nat → Nat) (s z : Nat) (x : Int32) (v : Int32) : Prop :=
  (x = nI 0 ∧ v = nI z) ∨ (x = nI 1 ∧ v = nI s) ∨ (∃ r, r < 2 ∧ x = nI (2 + r) ∧ v = nI (sumN (fun j => pc9 (sel r w0 w1 j)) 18)) ∨ ((∀ i, i < 4 → x ≠ nI i) ∧ v = -nI 3)
theorem cntN_det {w0 w1 : Nat → Nat} {s z : Nat} {x v v' : Int32} (h : cntN w0 w1 s z x v) (h' : cntN w0 w1 s z x v') : v = v' := by
  rcases h with ⟨e, h⟩ | ⟨e, h⟩ | ⟨r, hr, e, h⟩ | ⟨e, h⟩ <;> rcases h' with ⟨e', h'⟩ | ⟨e', h'⟩ | ⟨r', hr', e', h'⟩ | ⟨e', h'⟩ <;> try rw [h, h']
  all_goals first
    | (exfalso; rw [e] at e'; rw [q_eq (by omega) (by omega)] at e'; omega)
    | (exfalso; exact e' _ (by omega) e)
    | (exfalso; exact e _ (by omega) e')
    | (rw [e] at e'; rw [q_eq (by omega) (by omega)] at e'; rw [show r' = r from by omega])
theorem c_count {n0 m0 t0 n1 m1 t1 : Nat} {w0 w1 : Nat → Nat} (W0 : WfR n0 m0 t0 w0) (W1 : WfR n1 m1 t1 w1) {s z : Nat} {x : Int32} {K : Int32 → Prop}
    (h : ∀ v, cntN w0 w1 s z x v → K v) : wX11_count x (fun j => nI (w0 j)) (fun j => nI (w1 j)) (nI s) (nI z) K := by
  unfold wX11_count wX6_size wX8_size
  refine ⟨fun g => h _ (.inl ⟨g, rfl⟩), fun g0 => ⟨fun g => h _ (.inr (.inl ⟨g, rfl⟩)), fun g1 => ⟨fun g => ?_, fun g2 => ⟨fun g => ?_, fun g3 => h _ (.inr (.inr (.inr ⟨fun i hi e => ?_, rfl⟩)))⟩⟩⟩⟩
  · exact q_moveCount (fun j => (W0.2.2.2.2.2.1 j).1) (h _ (.inr (.inr (.inl ⟨0, by omega, g, rfl⟩))))
  · exact q_moveCount (fun j => (W1.2.2.2.2.2.1 j).1) (h _ (.inr (.inr (.inl ⟨1, by omega, g, rfl⟩))))
  · rcases (show i = 0 ∨ i = 1 ∨ i = 2 ∨ i = 3 by omega) with e' | e' | e' | e' <;> subst e'
    · exact g0 e
    · exact g1 e
    · exact g2 e
    · exact g3 e
theorem m_count {n0 m0 t0 n1 m1 t1 : Nat} {w0 w1 : Nat → Nat} {st mk tk pu go cl : Nat → Int32} (M : MdOk n0 m0 t0 w0 n1 m1 t1 w1 st mk tk pu go cl) {s z : Nat} {x : Int32} {K : Int32 → Prop}
    (h : ∀ v, cntN w0 w1 s z x v → K v) : wX12_count x (nI s) (nI z) pu go cl K := by
  unfold wX12_count
  refine ⟨fun g => h _ (.inl ⟨g, rfl⟩), fun g0 => ⟨fun g => h _ (.inr (.inl ⟨g, rfl⟩)), fun g1 => ⟨fun g => ?_, fun g2 => ⟨fun g => ?_, fun g3 => h _ (.inr (.inr (.inr ⟨fun i hi e => ?_, rfl⟩)))⟩⟩⟩⟩
  · exact q_movesOf (r := 0) M.2.2.1 (by omega) M.1 (h _ (.inr (.inr (.inl ⟨0, by omega, g, rfl⟩))))
  · exact q_movesOf (r := 1) M.2.2.1 (by omega) M.2.1 (h _ (.inr (.inr (.inl ⟨1, by omega, g, rfl⟩))))
  · rcases (show i = 0 ∨ i = 1 ∨ i = 2 ∨ i = 3 by omega) with e' | e' | e' | e' <;> subst e'
    · exact g0 e
    · exact g1 e
    · exact g2 e
    · exact g3 e
