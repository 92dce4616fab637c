section
variable {n0 m0 t0 n1 m1 t1 : Nat} {w0 w1 : Nat → Nat} {st mk tk pu go cl : Nat → Int32}
theorem m_isTaken {r : Nat} (hr : r < 2) (M : MdOk n0 m0 t0 w0 n1 m1 t1 w1 st mk tk pu go cl) {n code : Nat} (hn : n ≤ 5) (hc : code < 6 ^ n) {a b c : Int32} {so sc ss sl : Nat → Int32} {K : Int32 → Int32 → Int32 → Int32 → (Nat → Int32) → (Nat → Int32) → (Nat → Int32) → (Nat → Int32) → Prop}
    (h : ∀ a b c so sc ss sl, (∀ j, j < n → so j = nI (ltC n code j)) → K (nI (if takC (sel r w0 w1) (sel r n0 n1) (sel r t0 t1) n code then 1 else 0)) a b c so sc ss sl) :
    wX12_isTaken (nI r) (nI n) (nI code) a b c st mk tk pu go cl so sc ss sl K := by
  have pn := p6 n hn
  unfold wX12_isTaken
  intro x1 e1
  subst e1
  unfold wX12_isTaken_L8
  intro P hP
  rw [show nI n - 1 = nI n + -nI 1 from Int32.sub_eq_add_neg _ _]
  have key : ∀ q, q ≤ n → ∀ so, (∀ j, q ≤ j → j < n → so j = nI (ltC n code j)) → P (nI (code / 6 ^ (n - q))) (nI q + -nI 1) so := by
    intro q
    induction q with
    | zero =>
      intro _ so hso
      refine hP _ _ _ ⟨fun _ => ?_, fun g => absurd (show nI 0 + -nI 1 < (0 : Int32) by decide) g⟩
      have hok := syM_ok (wh := r) (by omega) M
      unfold wX12_beginRow
      refine m_begun (by omega) M (m_itself (by omega) M ?_)
      unfold wX12_isTaken_L46
      intro R hR
      refine q_cnt0 (Q := fun i => ∀ sc ss sl, SK r (rsy (syM r n0 w0 n1 w1) (ltC n code) i).2.2 sc ss sl → R (nI i) (nI (rsy (syM r n0 w0 n1 w1) (ltC n code) i).2.2.length) (nI (ps r (rsy (syM r n0 w0 n1 w1) (ltC n code) i).1)) (nI (ph r (rsy (syM r n0 w0 n1 w1) (ltC n code) i).2.1)) sc ss sl) n ?_ ?_ sc ss sl (fun d hd => absurd hd (by simp [rsy]))
      · intro sc ss sl H
        refine hR _ _ _ _ _ _ _ ⟨fun _ => ?_, fun g => absurd ((q_le (by omega) (by omega)).2 (Nat.le_refl n)) g⟩
        have c8 : (rsy (syM r n0 w0 n1 w1) (ltC n code) n).1 < 8 := S2_1 (NS_S2 hok (rsy_ok hok (ltC_lt n code) n).1) (syM_2 hr)
        refine m_takeR hr M c8 ?_
        have e := rsy_r (lt := ltC n code) hr M.1.1 M.2.1.1 M.1.2.2.2.2.2.1 M.2.1.2.2.2.2.2.1 n
        rw [e]
        exact h _ _ _ _ _ _ _ (fun j hj => hso j (Nat.zero_le j) hj)
      · intro i hi ih sc ss sl H
        refine hR _ _ _ _ _ _ _ ⟨fun g => absurd ((q_le (by omega) (by omega)).1 g) (by omega), fun _ => ?_⟩
        rw [q_in (by omega), q_cl (by omega), hso i (Nat.zero_le i) hi]
        refine ⟨by omega, m_goOn (by omega) rfl M (ltC_lt n code) (by omega) H (fun sc' ss' sl' H' => ?_)⟩
        intro z ez
        rw [ez, nI_1]
        exact ih _ _ _ H'
    | succ q ih =>
      intro hq so hso
      have e1 : nI (q + 1) + -nI 1 = nI q := by rw [q_addn (by omega), Nat.add_sub_cancel]
      rw [e1]
      have dl : code / 6 ^ (n - (q + 1)) < 7777 := Nat.lt_of_le_of_lt (Nat.div_le_self _ _) (by omega)
      refine hP _ _ _ ⟨fun g => absurd g (nI_pos (by omega)), fun _ => ?_⟩
      intro x15 e15
      rw [q_in (by omega), q_cl (by omega)]
      refine ⟨by omega, ?_⟩
      intro g16 eg x17 e17 x18 e18
      rw [show (6 : Int32) = nI 6 from rfl, q_divN (by omega) (by omega) (by omega)] at e17
      rw [show (6 : Int32) = nI 6 from rfl, pk_rem (by omega) (by omega) (by omega)] at e15
      rw [e17, e18]
      have e6 : code / 6 ^ (n - (q + 1)) / 6 = code / 6 ^ (n - q) := by
        rw [Nat.div_div_eq_div_mul, ← Nat.pow_succ, show (n - (q + 1)).succ = n - q from by omega]
      rw [e6]
      refine ih (by omega) _ (fun j h1 h2 => ?_)
      rw [eg, e15, q_ap]
      by_cases g : j = q
      · rw [if_pos g, g]
        unfold ltC
        rw [show n - 1 - q = n - (q + 1) from by omega]
      · rw [if_neg g]; exact hso j (by omega) h2
  have := key n (Nat.le_refl n) so (fun j h1 h2 => by omega)
  rw [Nat.sub_self, Nat.pow_zero, Nat.div_one] at this
  exact this
theorem m_letterOf {r : Nat} (hr : r < 2) (M : MdOk n0 m0 t0 w0 n1 m1 t1 w1 st mk tk pu go cl) {n i k : Nat} (hn : n ≤ 5) (hi : i < 2147483648) (hk : k < 2147483648) {a b c : Int32} {so sc ss sl : Nat → Int32} {K : Int32 → Int32 → Int32 → Int32 → (Nat → Int32) → (Nat → Int32) → (Nat → Int32) → (Nat → Int32) → Prop}
    (h : ∀ v a b c so sc ss sl, ofV (takC (sel r w0 w1) (sel r n0 n1) (sel r t0 t1) n) n i k v → K v a b c so sc ss sl) :
    wX12_letterOf (nI r) (nI n) (nI i) (nI k) a b c st mk tk pu go cl so sc ss sl K := by
  have pn := p6 n hn
  unfold wX12_letterOf wX12_letterOf_L6
  intro P hP
  refine q_cnt0 (Q := fun q => P (nI (6 ^ q)) (nI q)) n ?_ ?_
  · refine hP _ _ ⟨fun _ => ?_, fun g => absurd ((q_le (by omega) (by omega)).2 (Nat.le_refl n)) g⟩
    unfold wX12_letterOf_L31
    intro R hR
    let T := takC (sel r w0 w1) (sel r n0 n1) (sel r t0 t1) n
    refine q_cnt0 (Q := fun c => cdN T c ≤ i → ∀ a b d so sc ss sl, R (nI (i - cdN T c)) (nI c) a b d so sc ss sl) (6 ^ n) ?_ ?_ (Nat.zero_le i) a b c so sc ss sl
    · intro hle a b d so sc ss sl
      refine hR _ _ _ _ _ _ _ _ _ ⟨fun _ => h _ _ _ _ _ _ _ _ (.inr ⟨fun c hc pc => ?_, rfl⟩), fun g => absurd ((q_le (by omega) (by omega)).2 (Nat.le_refl _)) g⟩
      have := cdN_hit hc pc
      show cdN T c ≠ i
      have : cdN T c + 1 ≤ cdN T (6 ^ n) := this
      omega
    · intro c hc ih hle a b d so sc ss sl
      refine hR _ _ _ _ _ _ _ _ _ ⟨fun g => absurd ((q_le (by omega) (by omega)).1 g) (by omega), fun _ => ?_⟩
      refine m_isTaken hr M hn hc (fun a b d so sc ss sl _ => ?_)
      have es := cdN_s T c
      show (nI (if T c then 1 else 0) = 0 → _) ∧ (¬ nI (if T c then 1 else 0) = 0 → _)
      cases et : T c with
      | false =>
        rw [et] at es
        refine ⟨fun _ x12 e12 => ?_, fun g => absurd rfl g⟩
        rw [e12, nI_1]
        have es : cdN T (c + 1) = cdN T c := es
        have := ih (by omega) a b d so sc ss sl
        rw [es] at this
        exact this
      | true =>
        rw [et] at es
        have es : cdN T (c + 1) = cdN T c + 1 := es
        refine ⟨fun g => absurd g (by decide), fun _ => ⟨fun g => ?_, fun g => ?_⟩⟩
        · have g : i - cdN T c = 0 := (q_eq (b := 0) (by omega) (by omega)).1 g
          refine m_isTaken hr M hn hc (fun a b d so sc ss sl hso => ?_)
          refine ⟨fun g2 => ?_, fun g2 => ?_⟩
          · exact h _ _ _ _ _ _ _ _ (.inl ⟨c, hc, et, by show cdN T c = i; omega, .inr ⟨(q_le (by omega) (by omega)).1 g2, rfl⟩⟩)
          · have kn : k < n := by
              rcases Nat.lt_or_ge k n with g3 | g3
              · exact g3
              · exact absurd ((q_le (by omega) (by omega)).2 g3) g2
            rw [q_in (by omega), q_cl (by omega), hso k kn]
            exact ⟨by omega, h _ _ _ _ _ _ _ _ (.inl ⟨c, hc, et, by show cdN T c = i; omega, .inl ⟨kn, rfl⟩⟩)⟩
        · have g : i - cdN T c ≠ 0 := fun g2 => g (by rw [g2]; rfl)
          intro x14 e14 x15 e15
          rw [e15, nI_1, e14, show (-1 : Int32) = -nI 1 from rfl, q_addn (by omega)]
          have := ih (by omega) a b d so sc ss sl
          rw [es, show i - (cdN T c + 1) = i - cdN T c - 1 from by omega] at this
          exact this
  · intro q hq ih
    refine hP _ _ ⟨fun g => absurd ((q_le (by omega) (by omega)).1 g) (by omega), fun _ => ?_⟩
    intro x25 e25 x26 e26
    rw [e25, e26, nI_1, show (6 : Int32) = nI 6 from rfl, show nI 6 * nI (6 ^ q) = nI (6 ^ (q + 1)) from by rw [pk_mul, Nat.pow_succ, Nat.mul_comm]]
    exact ih
end
