theorem q_i32 {a : Nat} (h : a < 2147483648) : (lN a).toInt32 = nI a := by
  apply Int32.toBitVec_inj.1
  apply BitVec.eq_of_toNat_eq
  rw [Int64.toBitVec_toInt32, BitVec.signExtend_eq_setWidth_of_le _ (by omega), BitVec.toNat_setWidth]
  simp only [lN, nI, Int64.toBitVec_ofNat, Int64.toBitVec_ofNat', Int32.toBitVec_ofNat, Int32.toBitVec_ofNat', BitVec.toNat_ofNat]
  omega
theorem FinS_sub {α : Type} {S T : α → Prop} (h : FinS S) (hs : ∀ x, T x → S x) : FinS T := by
  obtain ⟨f, n, hf⟩ := h
  have key : ∀ k, k ≤ n → ∃ g m, Enum (fun x => T x ∧ ∃ i, i < k ∧ f i = x) g m := by
    intro k
    induction k with
    | zero => exact fun _ => ⟨f, 0, fun i hi => by omega, fun i j hi => by omega, fun x ⟨_, i, hi, _⟩ => by omega⟩
    | succ k ih =>
      intro hk
      obtain ⟨g, m, hg⟩ := ih (by omega)
      by_cases ht : T (f k)
      · refine ⟨fun i => if i = m then f k else g i, m + 1, fun i hi => ?_, fun i j hi hj e => ?_, fun x ⟨hx, i, hi, e⟩ => ?_⟩
        · by_cases e : i = m
          · simp only [if_pos e]; exact ⟨ht, k, by omega, rfl⟩
          · simp only [if_neg e]
            obtain ⟨h1, j, hj, ej⟩ := hg.1 i (by omega)
            exact ⟨h1, j, by omega, ej⟩
        · have no : ∀ i, i < m → f k ≠ g i := fun i hi e => by
            obtain ⟨_, j, hj, ej⟩ := hg.1 i hi
            have := hf.2.1 j k (by omega) (by omega) (by rw [ej, e])
            omega
          by_cases e1 : i = m
          · by_cases e2 : j = m
            · omega
            · simp only [if_pos e1, if_neg e2] at e
              exact absurd e (no j (by omega))
          · by_cases e2 : j = m
            · simp only [if_neg e1, if_pos e2] at e
              exact absurd e.symm (no i (by omega))
            · simp only [if_neg e1, if_neg e2] at e
              exact hg.2.1 i j (by omega) (by omega) e
        · by_cases e1 : i = k
          · exact ⟨m, by omega, by simp only [if_pos]; rw [← e, e1]⟩
          · obtain ⟨j, hj, ej⟩ := hg.2.2 x ⟨hx, i, by omega, e⟩
            exact ⟨j, by omega, by simp only [if_neg (show j ≠ m by omega)]; exact ej⟩
      · refine ⟨g, m, fun i hi => ?_, hg.2.1, fun x ⟨hx, i, hi, e⟩ => ?_⟩
        · obtain ⟨h1, j, hj, ej⟩ := hg.1 i hi
          exact ⟨h1, j, by omega, ej⟩
        · by_cases e1 : i = k
          · rw [e1] at e; rw [e] at ht; exact absurd hx ht
          · exact hg.2.2 x ⟨hx, i, by omega, e⟩
  obtain ⟨g, m, hg⟩ := key n (Nat.le_refl n)
  exact ⟨g, m, fun i hi => (hg.1 i hi).1, hg.2.1, fun x hx => hg.2.2 x ⟨hx, hf.2.2 x (hs x hx)⟩⟩
theorem FinS_N {y : Sy} (h : FinS (PS y)) : FinS (NSt y) := by
  obtain ⟨f, n, hf⟩ := h
  have : FinS (fun t : Nd => PS y t.1) := ⟨fun j => (f (j / 2), decide (j % 2 = 1)), n * 2, fun i hi => hf.1 _ (by omega), fun i j hi hj e => by
    injection e with e1 e2
    have := hf.2.1 _ _ (by omega) (by omega) e1
    have e2 : (i % 2 = 1) = (j % 2 = 1) := by
      have := decide_eq_decide.1 e2
      exact propext this
    by_cases g : i % 2 = 1
    · have : j % 2 = 1 := by rw [← e2]; exact g
      omega
    · have : ¬ j % 2 = 1 := by rw [← e2]; exact g
      omega, fun t ht => by
    obtain ⟨i, hi, ei⟩ := hf.2.2 t.1 ht
    obtain ⟨p, d⟩ := t
    cases d with
    | true => exact ⟨2 * i + 1, by omega, by show (f ((2 * i + 1) / 2), decide ((2 * i + 1) % 2 = 1)) = (p, true); rw [show (2 * i + 1) / 2 = i from by omega, ei, show (2 * i + 1) % 2 = 1 from by omega]; rfl⟩
    | false => exact ⟨2 * i, by omega, by show (f (2 * i / 2), decide (2 * i % 2 = 1)) = (p, false); rw [show (2 * i) / 2 = i from by omega, ei, show (2 * i) % 2 = 0 from by omega]; rfl⟩⟩
  exact FinS_sub this (fun t ht => ⟨t.2, ht⟩)
/-- how many rows of a length are taken -/
noncomputable def manS (y : Sy) (t N : Nat) : Nat := sumN (fun c => if tkB t c then gcn y N c false + gcn y N c true else 0) 8
def manV (y : Sy) (t N : Nat) (v : Int32) : Prop := (Big (PS y) ∧ v = -nI 6) ∨ (¬ Big (PS y) ∧ v = nI (manS y t N % 1000000007))
theorem manV_det {y : Sy} {t N : Nat} {v v' : Int32} (h : manV y t N v) (h' : manV y t N v') : v = v' := by
  rcases h with ⟨b, e⟩ | ⟨b, e⟩ <;> rcases h' with ⟨b', e'⟩ | ⟨b', e'⟩
  · rw [e, e']
  · exact absurd b b'
  · exact absurd b' b
  · rw [e, e']
section
variable {n m t : Nat} {w : Nat → Nat} {sz st : Nat} {pr wo : Nat → Nat} {pa so wa nx ar pl sl : Nat → Int32}
theorem q_beg0 {K : Int32 → Prop} (h : K (nI 1)) : wX1_beginning (nI 0) K := by
  unfold wX1_beginning wX1_joinedCode
  exact ⟨fun _ => h, fun g => absurd rfl g⟩
theorem q_rowsWithin (W : WfR n m t w) (H : WhOk (y1 n w) sz st pr wo pa so wa nx ar pl sl) (hN : FinS (NSt (y1 n w))) {fn : Nat} {im : Nat → Int32} {spr : Nat → Int64} (F : FI 8 sz pr fn im spr) (hfl : ∀ q x d, NS (y1 n w) q x d → fn.testBit q = true) {T : Nat} (hT : T < 18446744073709551616) (hTb : ∀ c, T.testBit c = (decide (c < 8) && tkB t (c % 8))) {N : Nat} (hN12 : N ≤ 12) {e ec ct : Nat} (he : e < 2147483648) (hec : ec < 2147483648) (hct : ct ≤ 12) {cw cs cg ca : Nat → Int64} (hC : ec = e → CLn (y1 n w) sz st pr wo ct cw cs cg ca) {K : Int32 → Int32 → Int32 → (Nat → Int64) → (Nat → Int64) → (Nat → Int64) → (Nat → Int64) → Prop}
    (h : ∀ ct' cw' cs' cg' ca', ct' ≤ 12 → CLn (y1 n w) sz st pr wo ct' cw' cs' cg' ca' → K (nI (manS (y1 n w) t N % 1000000007)) (nI e) (nI ct') cw' cs' cg' ca') :
    wX0_rowsWithin (lN T) (nI N) (nI 8) (nI ec) (nI ct) (nI e) (nI 0) (fun j => nI (w j)) (fun j => nI (w j)) (nI sz) (nI st) wa nx ar pl im cw cs cg ca 8 K := by
  obtain ⟨hW, p0, z1, _⟩ := id H
  have z60 := hW.1
  have hi := hW.2.2.1
  have tot : ∀ k cw cs cg ca, N ≤ k → k ≤ 12 → CLn (y1 n w) sz st pr wo k cw cs cg ca → ∀ E49 : Int64 → Int32 → Prop, (∀ a b, K ((a - a / (1000000007 : Int64) * (1000000007 : Int64)).toInt32) (nI e) (nI k) cw cs cg ca → E49 a b) → wX0_rowsWithin_L49 (lN T) (nI N) (nI 8) 8 (nI k) cg ca E49 (0 : Int64) (0 : Int32) := by
    intro k cw cs cg ca hk hk12 C E49 hE
    unfold wX0_rowsWithin_L49
    intro P hP
    have bd : ∀ c, sumN (fun c => if tkB t c then gcn (y1 n w) N c false % 1000000007 + gcn (y1 n w) N c true % 1000000007 else 0) c ≤ c * 2000000014 := fun c => sumN_le (fun i => by split <;> omega) c
    refine q_cnt0 (Q := fun c => P (lN (sumN (fun c => if tkB t c then gcn (y1 n w) N c false % 1000000007 + gcn (y1 n w) N c true % 1000000007 else 0) c)) (nI c)) 8 ?_ ?_
    · refine hP _ _ ⟨fun _ => hE _ _ ?_, fun g => absurd ((q_le (by omega) (by omega)).2 (Nat.le_refl 8)) g⟩
      have := bd 8
      rw [q_modL (by omega), q_i32 (by omega)]
      have e1 : sumN (fun c => if tkB t c then gcn (y1 n w) N c false % 1000000007 + gcn (y1 n w) N c true % 1000000007 else 0) 8 % 1000000007 = manS (y1 n w) t N % 1000000007 := sumN_mc 8 (fun i _ => by
        split
        · omega
        · rfl)
      rw [e1]
      exact h k cw cs cg ca hk12 C
    · intro c hc ih
      refine hP _ _ ⟨fun g => absurd ((q_le (by omega) (by omega)).1 g) (by omega), fun _ => ⟨fun g => absurd g (nI_pos (by omega)), fun _ => ⟨fun g => absurd ((q_lt (by omega) (by omega)).1 g) (by omega), fun _ => ?_⟩⟩⟩
      have es := sumN_s (fun c => if tkB t c then gcn (y1 n w) N c false % 1000000007 + gcn (y1 n w) N c true % 1000000007 else 0) c
      rw [q_tst hT (by omega), hTb, decide_eq_true hc, Bool.true_and, show c % 8 = c from by omega]
      rw [pk_mul, nI_add, q_in (by omega), q_cl (by omega), ((C N hk).2.2 c hc).1, ((C N hk).2.2 c hc).2]
      refine ⟨fun g x12 e12 => ?_, fun g => ⟨by omega, by omega, fun x13 e13 x14 e14 => ?_⟩⟩
      · rw [e12, nI_1]
        rw [es, if_neg (by rw [g]; decide), Nat.add_zero] at ih
        exact ih
      · have g : tkB t c = true := by cases e2 : tkB t c
                                      · exact absurd e2 g
                                      · rfl
        rw [e14, nI_1, e13, lN_addL, lN_addL]
        rw [es, if_pos g] at ih
        exact ih
  have grow : ∀ k cw cs cg ca, k ≤ 12 → CLn (y1 n w) sz st pr wo k cw cs cg ca → ∀ E12 : Int32 → Int32 → (Nat → Int64) → (Nat → Int64) → (Nat → Int64) → (Nat → Int64) → Prop, (∀ a k cw cs cg ca, (∀ E49 : Int64 → Int32 → Prop, (∀ x b, K ((x - x / (1000000007 : Int64) * (1000000007 : Int64)).toInt32) (nI e) k cw cs cg ca → E49 x b) → wX0_rowsWithin_L49 (lN T) (nI N) (nI 8) 8 k cg ca E49 (0 : Int64) (0 : Int32)) → E12 a k cw cs cg ca) → ∀ x7, x7 = nI k + 1 → wX0_rowsWithin_L12 (nI N) (nI 8) (fun j => nI (w j)) (fun j => nI (w j)) (nI sz) (nI st) wa nx ar pl im 8 E12 x7 (nI k) cw cs cg ca := by
    intro k cw cs cg ca hk C E12 hE x7 e7
    rw [nI_1] at e7
    subst e7
    unfold wX0_rowsWithin_L12
    intro P hP
    have key : ∀ d k cw cs cg ca, N - k = d → k ≤ 12 → CLn (y1 n w) sz st pr wo k cw cs cg ca → P (nI (k + 1)) (nI k) cw cs cg ca := by
      intro d
      induction d with
      | zero =>
        intro k cw cs cg ca hd hk C
        exact hP _ _ _ _ _ _ ⟨fun _ => hE _ _ _ _ _ _ (fun E49 h49 => tot k cw cs cg ca (by omega) hk C E49 h49), fun g => absurd ((q_lt (by omega) (by omega)).2 (by omega)) g⟩
      | succ d ih =>
        intro k cw cs cg ca hd hk C
        refine hP _ _ _ _ _ _ ⟨fun g => absurd ((q_lt (by omega) (by omega)).1 g) (by omega), fun _ => ⟨fun g => absurd ((q_le (a := 13) (by omega) (by omega)).1 g) (by omega), fun _ => ?_⟩⟩
        refine q_extend W H hN F hfl (by omega) C (fun cw' cs' cg' ca' C' x21 e21 => ?_)
        rw [e21, nI_1]
        exact ih (k + 1) _ _ _ _ (by omega) (by omega) C'
    exact key _ k cw cs cg ca rfl hk C
  unfold wX0_rowsWithin wX0_refresh wX4_edition
  refine ⟨fun g x7 e7 E12 hE => ?_, fun g => ?_⟩
  · have g := (q_eq hec he).1 g
    rw [g] at hE
    exact grow ct cw cs cg ca hct (hC g) E12 hE x7 e7
  · refine q_clear (n := 0) (by omega) (fun wh1 sp1 gr1 ab1 k1 k2 k3 k4 => ?_)
    refine q_addP (i := 0) (m := 1) (M := 1) (by omega) (by omega) (by omega) rfl (fun A hA => ?_)
    unfold wX4_held
    refine q_beg0 (q_addP (i := 1) (m := 1) (M := 1) (by omega) (by omega) (by omega) rfl (fun B hB x7 e7 E12 hE => ?_))
    refine grow 0 A sp1 B ab1 (by omega) (fun l hl => ?_) E12 hE x7 e7
    have l0 : l = 0 := by omega
    subst l0
    refine ⟨fun i hi' => ?_, fun s hs h1 => by omega, fun c hc => ⟨?_, ?_⟩⟩
    · rw [hA _ 0 (by omega) (k1.1 i (by omega)), wcn_0, Nat.zero_add]
      congr 2
      show ind (0 * 60 + i = 0) * 1 = _
      rw [Nat.mul_one]
      by_cases g2 : i = 0
      · rw [ind_t (by omega), if_pos (by rw [g2]; exact p0)]
      · rw [ind_f (by omega), if_neg (fun g3 => g2 (hi i 0 hi' (by omega) (by rw [g3, p0])))]
    · rw [hB _ 0 (by omega) (k3.1 c hc), gcn_0 hN, Nat.zero_add]
      congr 2
      show ind (0 * 8 + c = 1) * 1 = _
      rw [Nat.mul_one]
      exact ind_congr ⟨fun g2 => ⟨by show c = 1 + 8 * 0; omega, rfl⟩, fun g2 => by have : c = 1 + 8 * 0 := g2.1; omega⟩
    · rw [k4.1 c hc, gcn_0 hN, ind_f (fun g2 => absurd g2.2 (by decide))]
end
/-- what the class keeps of counts -/
def CInv (y : Sy) (B ch : Nat) (ed sn wz ws : Int32) (pa wa : Nat → Int32) (ce cc : Int32) (cw cs cg ca : Nat → Int64) : Prop := ∃ ec ct, ce = nI ec ∧ cc = nI ct ∧ ct ≤ 12 ∧ (∃ e, ed = nI e ∧ ec ≤ e ∧ e ≤ B) ∧ (ed = nI ec → sn = nI ch → ec ≠ 0 → ∀ sz st pr wo, wz = nI sz → ws = nI st → sz ≤ 60 → st ≤ 60 → (∀ i, i < sz → pa i = nI (pr i) ∧ pr i < 262144) → (∀ j, j < st → wa j = nI (wo j) ∧ wo j < sz) → CLn y sz st pr wo ct cw cs cg ca)
theorem CInv_up {y : Sy} {B B' ch : Nat} {ed sn wz ws ed' sn' wz' ws' : Int32} {pa wa pa' wa' : Nat → Int32} {ce cc : Int32} {cw cs cg ca : Nat → Int64} (h : CInv y B ch ed sn wz ws pa wa ce cc cw cs cg ca) (hB : B + 1 ≤ B') (hl : B' < 2147483648) (U : PUp ed sn wz ws pa wa ed' sn' wz' ws' pa' wa') : CInv y B' ch ed' sn' wz' ws' pa' wa' ce cc cw cs cg ca := by
  obtain ⟨ec, ct, e1, e2, h1, ⟨e, e3, h2, h3⟩, h4⟩ := h
  rcases U with ⟨u1, u2, u3, u4, u5, u6⟩ | ⟨f, u1, u2⟩
  · subst u1; subst u2; subst u3; subst u4; subst u5; subst u6
    exact ⟨ec, ct, e1, e2, h1, ⟨e, e3, h2, by omega⟩, h4⟩
  · have : f % 4294967296 = e % 4294967296 := by
      have h5 : nI f = nI e := by rw [← u1, e3]
      have := congrArg (fun x : Int32 => x.toBitVec.toNat) h5
      simpa [nI, Int32.toBitVec_ofNat] using this
    have e4 : nI (f + 1) = nI (e + 1) := by
      rw [← nI_1, ← nI_1, ← u1, ← e3]
    refine ⟨ec, ct, e1, e2, h1, ⟨e + 1, by rw [u2, e4], by omega, by omega⟩, fun g => ?_⟩
    rw [u2, e4] at g
    have := (q_eq (by omega) (by omega)).1 g
    omega
