section
variable {n0 m0 t0 n1 m1 t1 : Nat} {w0 w1 : Nat → Nat} {st mk tk pu go cl : Nat → Int32}
theorem m_countRuns (M : MdOk n0 m0 t0 w0 n1 m1 t1 w1 st mk tk pu go cl) {r : Nat} (hr : r < 2) {lt : Nat → Nat} (h6 : ∀ i, lt i < 6) {k : Nat} (hk : k ≤ 24) {ro : Nat → Int32} (hro : ∀ i, i < k → ro i = nI (lt i)) {pa so : Nat → Int32} {ru wa kr kw re : Nat → Int64} {K : (Nat → Int32) → (Nat → Int32) → (Nat → Int64) → (Nat → Int64) → (Nat → Int64) → (Nat → Int64) → (Nat → Int64) → Prop}
    (h : ∀ pa so ru wa kr kw re, (∀ j, j < 3 → ru j = lN (crA (sel r w0 w1) lt k j)) → K pa so ru wa kr kw re) : wX12_countRuns (nI r) (nI k) mk pu go cl ro pa so ru wa kr kw re K := by
  generalize ew : sel r w0 w1 = w at *
  have bl : ∀ j i, bW (w j) i < 1000000007 := fun j i => by have := bW_lt (w j) i; omega
  unfold wX12_countRuns wX12_countRuns_L5
  intro P5 hP5
  refine q_cnt0 (Q := fun i => ∀ B : Nat → Int64, (∀ j, j < i → B j = lN (if j = 0 then 1 else 0)) → P5 (nI i) B) 3 ?_ ?_ ru (fun j hj => absurd hj (by omega))
  · intro B HB
    refine hP5 _ _ ⟨fun _ => ?_, fun g => absurd ((q_le (by omega) (by omega)).2 (Nat.le_refl 3)) g⟩
    refine m_toItself (fun W0 hW0 => ?_)
    unfold wX12_countRuns_L41
    intro P hP
    refine q_cnt0 (Q := fun i => ∀ (pa so : Nat → Int32) (ru wa kr kw re : Nat → Int64), (∀ j, j < 3 → ru j = lN (crA w lt i j)) → (∀ j, j < 9 → wa j = lN (srA w lt i j)) → RK w lt i kr kw → P (nI (stk lt i).length) (nI i) pa so ru wa kr kw re) k ?_ ?_ pa so B W0 kr kw re HB hW0 (fun d hd => absurd hd (by simp [stk]))
    · intro pa so ru wa kr kw re H1 _ _
      exact hP _ _ _ _ _ _ _ _ _ ⟨fun _ => h _ _ _ _ _ _ _ H1, fun g => absurd ((q_le (by omega) (by omega)).2 (Nat.le_refl k)) g⟩
    · intro i hi ih pa so ru wa kr kw re H1 H2 H3
      have l6 := h6 i
      have sl := stk_len lt i
      have xl : ∀ j, crA w lt i j < 1000000007 := fun j => (csr_lt w lt i j).1
      have yl : ∀ j, srA w lt i j < 1000000007 := fun j => (csr_lt w lt i j).2
      refine hP _ _ _ _ _ _ _ _ _ ⟨fun g => absurd ((q_le (by omega) (by omega)).1 g) (by omega), fun _ => ?_⟩
      rw [q_in (by omega), q_cl (by omega), hro i hi, show (2 : Int32) = nI 2 from rfl, show (4 : Int32) = nI 4 from rfl]
      refine ⟨by omega, fun x4 e4 => ?_⟩
      subst e4
      rw [q_le (by omega) (by omega), q_le (by omega) (by omega)]
      refine ⟨fun g2 => ⟨fun g4 => ?_, fun g4 => ?_⟩, fun g2 => ?_⟩
      · cases e : stk lt i with
        | nil =>
          refine ⟨fun _ => ?_, fun g => absurd (show nI ([] : List Nat).length ≤ (0 : Int32) by decide) g⟩
          rw [← ew] at *
          refine m_L415 M hr g4 l6 (fun F hF => ?_)
          refine m_stepRuns H1 hF xl (bl _) (fun R hR => ?_)
          refine m_toItself (fun T hT => ?_)
          intro y ey
          rw [ey, nI_1]
          have ih := ih pa so R T kr kw F (fun j hj => by rw [hR j hj, (crA_free g4 e).1]) (fun j hj => by rw [hT j hj, (crA_free g4 e).2]) (RK_same (stk_same g2 (.inr e)) H3)
          rw [stk_same g2 (.inr e), e] at ih
          exact ih
        | cons o rr =>
          have so' := stk_cons lt i o rr e
          have hp := RK_pop g4 e H3
          have rl : rr.length + 1 ≤ i := by rw [e, List.length_cons] at sl; exact sl
          rw [List.length_cons]
          refine ⟨fun g => absurd ((q_le (b := 0) (by omega) (by omega)).1 g) (by omega), fun _ x16 e16 => ?_⟩
          rw [show (-1 : Int32) = -nI 1 from rfl, q_addn (by omega), Nat.add_sub_cancel] at e16
          subst e16
          unfold wX12_letterOpen
          rw [nI_1]
          refine q_findP (z := k) hk h6 hro (by omega) (fun pa' so2 FF => ?_)
          have pe : pa' i = nI o := by
            rcases FF.2 i (by omega) with ⟨q, hq, e2, hq2⟩ | ⟨hq, _⟩
            · rcases hq with ⟨_, r2, h3⟩ | ⟨h3, _⟩
              · rw [e] at h3; injection h3 with h4; rw [e2, h4]
              · omega
            · exact absurd (.inl ⟨g4, rr, e⟩) (hq o)
          rw [q_in (by omega), q_cl (by omega), pe, q_in (by omega), q_cl (by omega), hro o (by omega)]
          refine ⟨by omega, by omega, ?_⟩
          rw [← ew] at *
          refine m_L296 M hr so'.2.2 g4 l6 H2 yl (fun F hF => ?_)
          refine m_L336 (by omega) hp.2.1 (fun A hA => ?_)
          refine m_L369 (by omega) hp.2.2 (fun C hC => ?_)
          refine m_stepRuns hA hF (fun j => (csr_lt _ lt o j).1) (wrW_lt _ _ _ _) (fun R hR => ?_)
          refine m_stepWays hC hF (fun j => (csr_lt _ lt o j).2) (wrW_lt _ _ _ _) (fun T hT => ?_)
          intro y ey
          rw [ey]
          have ih := ih pa' so2 R T kr kw F (fun j hj => by rw [hR j hj, (crA_close g4 e).1]) (fun j hj => by rw [hT j hj, (crA_close g4 e).2]) hp.1
          rw [stk_pop g4 e] at ih
          exact ih
      · rw [← ew] at *
        refine m_L224 M hr g2 (by omega) (fun F hF => ?_)
        refine m_stepRuns H1 hF xl (bl _) (fun R hR => ?_)
        refine m_stepWays H2 hF yl (bl _) (fun T hT => ?_)
        intro y ey
        rw [ey, nI_1]
        have ih := ih pa so R T kr kw F (fun j hj => by rw [hR j hj, (crA_plain g2 (by omega)).1]) (fun j hj => by rw [hT j hj, (crA_plain g2 (by omega)).2]) (RK_same (stk_same g2 (.inl (by omega))) H3)
        rw [stk_same g2 (.inl (by omega))] at ih
        exact ih
      · have g2 : lt i < 2 := by omega
        refine m_L65 (by omega) H1 (fun A hA hA2 => ?_)
        refine m_L98 (by omega) H2 (fun C hC hC2 => ?_)
        intro x45 e45
        rw [e45, nI_1]
        rw [← ew] at *
        refine m_L136 M hr g2 (fun F hF => ?_)
        refine m_stepRuns H1 hF xl (opW_lt _ _) (fun R hR => ?_)
        refine m_toItself (fun T hT => ?_)
        intro y ey
        rw [ey, nI_1]
        have es : stk lt (i + 1) = i :: stk lt i := by rw [stk, if_pos g2]
        have ih := ih pa so R T A C F (fun j hj => by rw [hR j hj, (crA_open g2).1]) (fun j hj => by rw [hT j hj, (crA_open g2).2]) (fun d hd => by
          rw [es, List.length_cons] at hd
          rcases Nat.lt_or_ge d (stk lt i).length with g | g
          · rw [sto_push g2 g]
            have := H3 d g
            exact ⟨fun p hp => by rw [hA2 _ (by omega)]; exact this.1 p hp, fun q hq => by rw [hC2 _ (by omega)]; exact this.2 q hq⟩
          · have : d = (stk lt i).length := by omega
            subst this
            rw [sto_new g2]
            exact ⟨hA, hC⟩)
        rw [es, List.length_cons] at ih
        exact ih
  · intro i hi ih B HB
    refine hP5 _ _ ⟨fun g => absurd ((q_le (a := 3) (by omega) (by omega)).1 g) (by omega), fun _ => ?_⟩
    rw [show (0 : Int32) = nI 0 from rfl, q_eq (by omega) (by omega), q_in (by omega), q_cl (by omega)]
    have st : ∀ v, v = (if i = 0 then 1 else 0) → ∀ g : Nat → Int64, g = vp_updL B i (lN v) → P5 (nI (i + 1)) g := fun v ev g eg => by
      refine ih g (fun j hj => ?_)
      rw [eg, q_updL]
      by_cases e : j = i
      · rw [if_pos e, ev, e]
      · rw [if_neg e]; exact HB j (by omega)
    refine ⟨fun g => ⟨hi, fun g1 e1 y ey => ?_⟩, fun g => ⟨hi, fun g1 e1 y ey => ?_⟩⟩
    · rw [ey, nI_1]; exact st 1 (by rw [if_pos g]) g1 e1
    · rw [ey, nI_1]; exact st 0 (by rw [if_neg g]) g1 e1
end
