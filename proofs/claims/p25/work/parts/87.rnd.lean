def runV (w : Nat → Nat) (n t : Nat) (lt : Nat → Nat) (k v : Nat) : Nat := if v = 0 then cmA w n lt k else if v = 1 then (if cmA w n lt k &&& t = 0 then 0 else 1) else (crA w lt k 0 + crA w lt k 1 + crA w lt k 2) % 1000000007
theorem q_psr : ∀ r, r < 2 → ∀ c, c < 8 → nI (ps r c) >>> ((3 * nI r) &&& 31) = nI c := by decide +kernel
theorem c_run {n0 m0 t0 n1 m1 t1 : Nat} {w0 w1 : Nat → Nat} (W0 : WfR n0 m0 t0 w0) (W1 : WfR n1 m1 t1 w1) {z : Nat} {lt : Nat → Nat} {ls bs : Nat → Int32} (R : RowC z lt ls bs) {x p q sm : Int32} {co si : Nat → Int32} {rc rs rf rh : Nat → Int64} {K : Int32 → Int32 → (Nat → Int32) → (Nat → Int32) → (Nat → Int64) → (Nat → Int64) → (Nat → Int64) → (Nat → Int64) → Prop}
    (h1 : ∀ r k v, r < 2 → x = nI r → k ≤ z → p = nI k → v < 3 → q = nI v → ∀ sm co si rc rs rf rh, K (nI (runV (sel r w0 w1) (sel r n0 n1) (sel r t0 t1) lt k v)) sm co si rc rs rf rh)
    (h3 : ∀ r, r < 2 → x = nI r → (∀ k v, k ≤ z → p = nI k → v < 3 → q ≠ nI v) → K (-nI 3) sm co si rc rs rf rh)
    (h2 : (∀ r, r < 2 → x ≠ nI r) → K (-nI 2) sm co si rc rs rf rh) :
    wX11_run x p q (nI n0) (nI m0) (nI t0) (fun j => nI (w0 j)) (nI n1) (nI m1) (nI t1) (fun j => nI (w1 j)) (nI z) ls bs sm co si rc rs rf rh K := by
  have hz := R.1
  unfold wX11_run
  refine c_isR (fun r hr e => ⟨fun g => absurd g (by decide), fun _ => ?_⟩) (fun g => ⟨fun _ => h2 g, fun g => absurd rfl g⟩)
  refine c_behind hz (fun k hk ek => ⟨fun g => absurd g (by decide), fun _ => ?_⟩) (fun g => ⟨fun _ => h3 r hr e (fun k v hk ek => absurd ek (g k hk)), fun g => absurd rfl g⟩)
  have no : (∀ v, v < 3 → q ≠ nI v) → K (-nI 3) sm co si rc rs rf rh := fun g => h3 r hr e (fun k v hk ek hv => g v hv)
  have wk : ∀ {n m t : Nat} {w : Nat → Nat} {v : Nat}, v < 2 → WfR n m t w → (∀ sm co si rc rs rf rh, K (nI (runV w n t lt k v)) sm co si rc rs rf rh) → ∀ {KK : Prop → Prop}, (∀ {c : Int32} {Q : Int32 → Prop}, (wX5_takesAny c (nI t) Q → KK (wX5_takesAny c (nI t) Q))) → wX9_follow (nI k) sm co si (nI n) (nI m) (fun j => nI (w j)) (nI z) ls bs (fun u9 u10 u11 => wX9_comeAt (nI k) u10 (fun r12 => (nI v = 0 → K r12 u9 u10 u11 rc rs rf rh) ∧ (¬ nI v = 0 → KK (wX5_takesAny r12 (nI t) (fun r15 => (r15 = 0 → K 0 u9 u10 u11 rc rs rf rh) ∧ (¬ r15 = 0 → K 1 u9 u10 u11 rc rs rf rh)))))) := fun {n m t w v} hv W h {KK} hKK => by
    refine q_followC W R hk (fun co' si' H => ?_)
    unfold wX9_comeAt
    rw [q_in (by omega), q_cl (by omega)]
    refine ⟨fun g => absurd g (nI_pos (by omega)), fun _ => ⟨fun g => absurd ((q_le (a := 25) (by omega) (by omega)).1 g) (by omega), fun _ => ⟨by omega, ?_⟩⟩⟩
    dsimp only
    rw [(H k (Nat.le_refl k)).1, show (0 : Int32) = nI 0 from rfl, q_eq (by omega) (by omega)]
    refine ⟨fun g => ?_, fun g => hKK (q_takesAny (cs_lt W lt k).1 ?_)⟩
    · have := h (nI (idn n)) co' si' rc rs rf rh
      unfold runV at this
      rw [if_pos g] at this; exact this
    · have := h (nI (idn n)) co' si' rc rs rf rh
      unfold runV at this
      rw [if_neg g, if_pos (show v = 1 by omega)] at this
      by_cases g2 : cmA w n lt k &&& t = 0
      · rw [if_pos g2] at this ⊢
        exact ⟨fun _ => this, fun g => absurd rfl g⟩
      · rw [if_neg g2] at this ⊢
        exact ⟨fun g => absurd g (by decide), fun _ => this⟩
  refine ⟨fun g => no (fun v hv ev => ?_), fun g0 => ⟨fun g2 => ?_, fun g2 => no (fun v hv ev => ?_)⟩⟩
  · rw [ev] at g; exact absurd g (nI_pos (by omega))
  · have hv : ∃ v, v < 3 ∧ q = nI v := by
      rcases q_between (x := q) (lo := 0) (hi := 2) (by omega) (by omega) with g | g | ⟨v, _, hv, ev⟩
      · exact absurd g g0
      · exfalso
        rw [Int32.lt_iff_toInt_lt] at g
        rw [Int32.le_iff_toInt_le] at g2
        rw [show ((2 : Int32)).toInt = 2 from by decide] at g2
        rw [show (nI 2).toInt = 2 from by decide] at g
        omega
      · exact ⟨v, by omega, ev⟩
    obtain ⟨v, hv, ev⟩ := hv
    have hh := h1 r k v hr e hk ek hv ev
    subst e; subst ek; subst ev
    rw [show (2 : Int32) = nI 2 from rfl, q_eq (by omega) (by omega)]
    refine ⟨fun g => ?_, fun g => ?_⟩
    · subst g
      refine c_chosen hr (fun e => ?_) (fun e => ?_)
      · subst e; exact q_runs W0 R hk (fun rc rs rf rh => hh _ _ _ _ _ _ _)
      · subst e; exact q_runs W1 R hk (fun rc rs rf rh => hh _ _ _ _ _ _ _)
    · refine c_chosen hr (fun e => ?_) (fun e => ?_)
      · subst e
        exact wk (KK := fun X => wX11_chosen (nI 0) False X) (by omega) W0 hh (fun h => c_chosen (by omega) (fun _ => h) (fun e => by omega))
      · subst e
        exact wk (KK := fun X => wX11_chosen (nI 1) X False) (by omega) W1 hh (fun h => c_chosen (by omega) (fun e => by omega) (fun _ => h))
  · rw [ev, show (2 : Int32) = nI 2 from rfl, q_le (by omega) (by omega)] at g2; omega
theorem m_run {n0 m0 t0 n1 m1 t1 : Nat} {w0 w1 : Nat → Nat} {st mk tk pu go cl : Nat → Int32} (M : MdOk n0 m0 t0 w0 n1 m1 t1 w1 st mk tk pu go cl) {z : Nat} {lt : Nat → Nat} (hz : z ≤ 24) (h6 : ∀ i, lt i < 6) {ro : Nat → Int32} (hro : ∀ i, i < z → ro i = nI (lt i)) {x p q a b c : Int32} {pa so sc ss sl : Nat → Int32} {ru wa kr kw re : Nat → Int64} {K : Int32 → Int32 → Int32 → Int32 → (Nat → Int32) → (Nat → Int32) → (Nat → Int32) → (Nat → Int32) → (Nat → Int32) → (Nat → Int64) → (Nat → Int64) → (Nat → Int64) → (Nat → Int64) → (Nat → Int64) → Prop}
    (h1 : ∀ r k v, r < 2 → x = nI r → k ≤ z → p = nI k → v < 3 → q = nI v → ∀ a b c pa so sc ss sl ru wa kr kw re, K (nI (runV (sel r w0 w1) (sel r n0 n1) (sel r t0 t1) lt k v)) a b c pa so sc ss sl ru wa kr kw re)
    (h3 : ∀ r, r < 2 → x = nI r → (∀ k v, k ≤ z → p = nI k → v < 3 → q ≠ nI v) → K (-nI 3) a b c pa so sc ss sl ru wa kr kw re)
    (h2 : (∀ r, r < 2 → x ≠ nI r) → K (-nI 2) a b c pa so sc ss sl ru wa kr kw re) :
    wX12_run x p q (nI z) a b c st mk tk pu go cl ro pa so sc ss sl ru wa kr kw re K := by
  unfold wX12_run
  refine q_isR (fun r hr e => ⟨fun g => absurd g (by decide), fun _ => ?_⟩) (fun g => ⟨fun _ => h2 g, fun g => absurd rfl g⟩)
  refine q_behind hz (fun k hk ek => ⟨fun g => absurd g (by decide), fun _ => ?_⟩) (fun g => ⟨fun _ => h3 r hr e (fun k v hk ek => absurd ek (g k hk)), fun g => absurd rfl g⟩)
  refine q_behind (z := 2) (by omega) (fun v hv ev => ⟨fun g => absurd g (by decide), fun _ => ?_⟩) (fun g => ⟨fun _ => h3 r hr e (fun k v hk ek hv => g v (by omega)), fun g => absurd rfl g⟩)
  have hh := h1 r k v hr e hk ek (by omega) ev
  subst e; subst ek; subst ev
  rw [show (2 : Int32) = nI 2 from rfl, q_eq (by omega) (by omega)]
  refine ⟨fun g => ?_, fun g => ?_⟩
  · subst g
    refine m_countRuns M hr h6 (by omega) (fun i hi => hro i (by omega)) (fun pa so ru wa kr kw re H => ?_)
    have l : ∀ j, crA (sel r w0 w1) lt k j < 1000000007 := fun j => (csr_lt _ lt k j).1
    have l0 := l 0
    have l1 := l 1
    have l2 := l 2
    rw [show (0 : Int32) = nI 0 from rfl, show (1 : Int32) = nI 1 from rfl, q_in (by omega), q_in (by omega), q_in (by omega), q_cl (by omega), q_cl (by omega), q_cl (by omega), H 0 (by omega), H 1 (by omega), H 2 (by omega), q_sum3 l0 l1 l2]
    refine ⟨by omega, by omega, by omega, fun x24 e24 => ?_⟩
    rw [e24, lN_i]
    exact hh _ _ _ _ _ _ _ _ _ _ _ _ _
  · refine m_goRow (by omega) rfl M h6 (by omega) (fun i hi => hro i (by omega)) (fun sc' ss' sl' _ => ?_)
    have W := (MdOk_r M hr).1
    have c8 := (cs_lt W lt k).1
    rw [rsy_r hr M.1.1 M.2.1.1 M.1.2.2.2.2.2.1 M.2.1.2.2.2.2.2.1]
    rw [show (0 : Int32) = nI 0 from rfl, q_eq (by omega) (by omega)]
    refine ⟨fun g => ?_, fun g => ?_⟩
    · rw [show (rsm (sel r w0 w1) (sel r n0 n1) lt k).1 = cmA (sel r w0 w1) (sel r n0 n1) lt k from rfl, q_ps r hr _ c8]
      have := hh (nI (rsm (sel r w0 w1) (sel r n0 n1) lt k).2.2.length) (nI (ps r (cmA (sel r w0 w1) (sel r n0 n1) lt k))) (nI (ph r (rsm (sel r w0 w1) (sel r n0 n1) lt k).2.1)) pa so sc' ss' sl' ru wa kr kw re
      unfold runV at this
      rw [if_pos g] at this
      exact this
    · unfold wX12_doesTake
      rw [q_in (by omega), q_cl (by omega), (MdOk_r M hr).2.2.2, show (rsm (sel r w0 w1) (sel r n0 n1) lt k).1 = cmA (sel r w0 w1) (sel r n0 n1) lt k from rfl, q_psr r hr _ c8, q_and, show (0 : Int32) = nI 0 from rfl, q_eq (by have := Nat.and_le_left (n := cmA (sel r w0 w1) (sel r n0 n1) lt k) (m := sel r t0 t1); omega) (by omega)]
      have hh := hh (nI (rsm (sel r w0 w1) (sel r n0 n1) lt k).2.2.length) (nI (ps r (cmA (sel r w0 w1) (sel r n0 n1) lt k))) (nI (ph r (rsm (sel r w0 w1) (sel r n0 n1) lt k).2.1)) pa so sc' ss' sl' ru wa kr kw re
      unfold runV at hh
      rw [if_neg g, if_pos (show v = 1 by omega)] at hh
      refine ⟨hr, fun g2 => ?_, fun g2 => ?_⟩
      · rw [if_pos g2] at hh
        exact ⟨fun _ => hh, fun g => absurd rfl g⟩
      · rw [if_neg g2] at hh
        exact ⟨fun g => absurd g (by decide), fun _ => hh⟩
