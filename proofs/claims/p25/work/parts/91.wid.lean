section
variable {wh n0 m0 t0 n1 m1 t1 : Nat} {w0 w1 : Nat → Nat} {st mk tk pu go cl : Nat → Int32} {y : Sy}
theorem q_o4 : ∀ i, i < 240 → nI i / 4 = nI (i / 4) ∧ (nI i - nI i / 4 * 4) / 2 = nI (i % 4 / 2) ∧ 4 + (nI i - nI i / 2 * 2) = nI (4 + i % 2) := by decide +kernel
def SL (y : Sy) (wh : Nat) (C : Nat × Nat → Prop) (n : Nat) (f : Nat → Nat × Nat) (co si : Nat → Int32) : Prop := LL y wh n f co si ∧ ∀ p, inL n f p → C p
theorem m_addS (hw : wh < 3) (hy : y = syM wh n0 w0 n1 w1) (hok : SyOk y) (nb : ¬ Big (PS y)) {C : Nat × Nat → Prop} (hC : ∀ c x s, C (c, x) → stpS y (WS y) s → C (imc c s, thn x s)) (hCP : ∀ p, C p → PS y p) {n : Nat} {f : Nat → Nat × Nat} {co si : Nat → Int32} (L : SL y wh C n f co si) {c x s : Nat} (hp : C (c, x)) (hs : stpS y (WS y) s) {K : Int32 → (Nat → Int32) → (Nat → Int32) → Prop}
    (h : ∀ n' f' co' si', SL y wh C n' f' co' si' → LE n f n' f' → inL n' f' (imc c s, thn x s) → (∀ p, inL n' f' p → inL n f p ∨ p = (imc c s, thn x s)) → K (nI n') co' si') :
    wX12_image (nI (ps wh c)) (nI (ph wh s)) (fun r => wX12_follow (nI (ph wh x)) (nI (ph wh s)) (fun r2 => wX12_list r r2 (nI n) co si K)) := by
  have mI : ∀ {c z : Nat} {K : Int32 → Prop}, S2 y c → R2 y z → K (nI (ps wh (imc c z))) → wX12_image (nI (ps wh c)) (nI (ph wh z)) K := fun hc hz h => by rw [hy] at hc hz; exact m_image (n0 := n0) (w0 := w0) (n1 := n1) (w1 := w1) hw hc hz h
  have mF : ∀ {x z : Nat} {K : Int32 → Prop}, R2 y x → R2 y z → K (nI (ph wh (thn x z))) → wX12_follow (nI (ph wh x)) (nI (ph wh z)) K := fun hx hz h => by rw [hy] at hx hz; exact m_follow (n0 := n0) (w0 := w0) (n1 := n1) (w1 := w1) hw hx hz h
  have b := PS_b hok (hCP _ hp)
  have rs := stp_R2 hok hs
  refine mI b.1 rs (mF b.2 rs ?_)
  have hn := hC _ _ _ hp hs
  refine m_list hw hy hok nb L.1 (hCP _ hn) (fun n' f' co' si' L' l1 l2 l3 => h n' f' co' si' ⟨L', fun p hp => ?_⟩ ⟨l1, l2⟩ ((l3 _).2 (.inr rfl)) (fun p hp => (l3 p).1 hp))
  rcases (l3 p).1 hp with h | h
  · exact L.2 p h
  · rw [h]; exact hn
theorem m_w29 (hw : wh < 3) (hy : y = syM wh n0 w0 n1 w1) (hok : SyOk y) (nb : ¬ Big (PS y)) (M : MdOk n0 m0 t0 w0 n1 m1 t1 w1 st mk tk pu go cl) {C : Nat × Nat → Prop} (hC : ∀ c x s, C (c, x) → stpS y (WS y) s → C (imc c s, thn x s)) (hCP : ∀ p, C p → PS y p) {n : Nat} {f : Nat → Nat × Nat} {co si : Nat → Int32} (L : SL y wh C n f co si) {c x : Nat} (hp : C (c, x)) {E : Int32 → Int32 → (Nat → Int32) → (Nat → Int32) → Prop}
    (h : ∀ n' f' co' si', SL y wh C n' f' co' si' → LE n f n' f' → (∀ l, 2 ≤ l → l < 4 → inL n' f' (imc c (sP y l), thn x (sP y l))) → E (nI 4) (nI n') co' si') :
    wX12_widen_L29 (nI wh) go (nI (ps wh c)) (nI (ph wh x)) E (nI 2) (nI n) co si := by
  have mP : ∀ {l : Nat} {K : Int32 → Prop}, 2 ≤ l → l < 4 → K (nI (ph wh (sP y l))) → wX12_plain (nI wh) (nI l) go K := fun h1 h2 h => by rw [hy] at h; exact m_plain hw M h1 h2 h
  unfold wX12_widen_L29
  intro P hP
  refine q_cnt0 (Q := fun i => ∀ n' f' co' si', SL y wh C n' f' co' si' → LE n f n' f' → (∀ l, 2 ≤ l → l < i + 2 → inL n' f' (imc c (sP y l), thn x (sP y l))) → P (nI (i + 2)) (nI n') co' si') 2 ?_ ?_ n f co si L (LE_r n f) (fun l h1 h2 => by omega)
  · intro n' f' co' si' L' le hl
    exact hP _ _ _ _ ⟨fun _ => h n' f' co' si' L' le hl, fun g => absurd ((q_le (by omega) (by omega)).2 (Nat.le_refl 4)) g⟩
  · intro i hi ih n' f' co' si' L' le hl
    refine hP _ _ _ _ ⟨fun g => absurd ((q_le (a := 4) (by omega) (by omega)).1 g) (by omega), fun _ => ?_⟩
    refine mP (l := i + 2) (by omega) (by omega) ?_
    refine m_addS hw hy hok nb hC hCP L' hp (s := sP y (i + 2)) ?_ (fun n2 f2 co2 si2 L2 le2 hin _ => ?_)
    · rcases (show i = 0 ∨ i = 1 by omega) with e | e <;> subst e
      · exact .inl rfl
      · exact .inr (.inl rfl)
    · intro z ez
      rw [ez, nI_1]
      refine ih n2 f2 co2 si2 L2 (LE_t le le2) (fun l h1 h2 => ?_)
      by_cases e : l = i + 2
      · rw [e]; exact hin
      · exact LE_in le2 (hl l h1 (by omega))
theorem m_w71 (hw : wh < 3) (hy : y = syM wh n0 w0 n1 w1) (hok : SyOk y) (nb : ¬ Big (PS y)) (M : MdOk n0 m0 t0 w0 n1 m1 t1 w1 st mk tk pu go cl) {C : Nat × Nat → Prop} (hC : ∀ c x s, C (c, x) → stpS y (WS y) s → C (imc c s, thn x s)) (hCP : ∀ p, C p → PS y p) {wn : Nat} {xs : Nat → Nat} {wo : Nat → Int32} (WW : WM y wh wn xs wo) {n : Nat} {f : Nat → Nat × Nat} {co si : Nat → Int32} (L : SL y wh C n f co si) {c x : Nat} (hp : C (c, x)) {E : Int32 → Int32 → (Nat → Int32) → (Nat → Int32) → Prop}
    (h : ∀ n' f' co' si', SL y wh C n' f' co' si' → LE n f n' f' → (∀ o, o < 4 * wn → inL n' f' (imc c (sB y (o % 4 / 2) (4 + o % 2) (xs (o / 4))), thn x (sB y (o % 4 / 2) (4 + o % 2) (xs (o / 4))))) → E (nI (4 * wn)) (nI n') co' si') :
    wX12_widen_L71 (nI wh) (nI wn) mk pu cl wo (nI (ps wh c)) (nI (ph wh x)) E (nI 0) (nI n) co si := by
  have mB : ∀ {a e x : Nat} {K : Int32 → Prop}, a < 2 → 4 ≤ e → e < 6 → R2 y x → K (nI (ph wh (sB y a e x))) → wX12_block (nI wh) (nI a) (nI (ph wh x)) (nI e) mk pu cl K := fun h1 h2 h3 h4 h => by rw [hy] at h h4; exact m_block hw M h1 h2 h3 h4 h
  have wn60 := WW.2.1
  unfold wX12_widen_L71
  intro P hP
  refine q_cnt0 (Q := fun i => ∀ n' f' co' si', SL y wh C n' f' co' si' → LE n f n' f' → (∀ o, o < i → inL n' f' (imc c (sB y (o % 4 / 2) (4 + o % 2) (xs (o / 4))), thn x (sB y (o % 4 / 2) (4 + o % 2) (xs (o / 4))))) → P (nI i) (nI n') co' si') (4 * wn) ?_ ?_ n f co si L (LE_r n f) (fun o h => by omega)
  · intro n' f' co' si' L' le hl
    refine hP _ _ _ _ ?_
    rw [show (4 : Int32) = nI 4 from rfl, pk_mul]
    exact ⟨fun _ => h n' f' co' si' L' le hl, fun g => absurd ((q_le (by omega) (by omega)).2 (Nat.le_refl (4 * wn))) g⟩
  · intro i hi ih n' f' co' si' L' le hl
    have d := q_o4 i (by omega)
    have Wi := WW.2.2.2.1 (i / 4) (by omega)
    have e4 : (4 : Int32) * nI wn = nI (4 * wn) := by rw [show (4 : Int32) = nI 4 from rfl, pk_mul]
    refine hP _ _ _ _ ⟨fun g => ?_, fun _ => ?_⟩
    · rw [e4] at g
      exact absurd ((q_le (by omega) (by omega)).1 g) (by omega)
    · rw [d.2.1, d.2.2, d.1, q_in (by omega), q_cl (by omega), Wi.1]
      refine ⟨by omega, mB (by omega) (by omega) (by omega) (WS_R2 hok Wi.2) ?_⟩
      refine m_addS hw hy hok nb hC hCP L' hp (s := sB y (i % 4 / 2) (4 + i % 2) (xs (i / 4))) (.inr (.inr ⟨_, _, _, by omega, by omega, by omega, Wi.2, rfl⟩)) (fun n2 f2 co2 si2 L2 le2 hin _ => ?_)
      intro z ez
      rw [ez, nI_1]
      refine ih n2 f2 co2 si2 L2 (LE_t le le2) (fun o h1 => ?_)
      by_cases e : o = i
      · rw [e]; exact hin
      · exact LE_in le2 (hl o (by omega))
theorem m_w137 (hw : wh < 3) (hy : y = syM wh n0 w0 n1 w1) (hok : SyOk y) (nb : ¬ Big (PS y)) (M : MdOk n0 m0 t0 w0 n1 m1 t1 w1 st mk tk pu go cl) {g : Nat} (hg : g = 0 ∨ g = 1) {C : Nat × Nat → Prop} (hC2 : g = 1 → ∀ c x l, C (c, x) → 4 ≤ l → l < 6 → C (sA y l c, sE y)) (hCP : ∀ p, C p → PS y p) {n : Nat} {f : Nat → Nat × Nat} {co si : Nat → Int32} (L : SL y wh C n f co si) {c x : Nat} (hp : C (c, x)) {E : Int32 → Int32 → (Nat → Int32) → (Nat → Int32) → Prop}
    (h : ∀ u n' f' co' si', SL y wh C n' f' co' si' → LE n f n' f' → (g = 1 → ∀ l, 4 ≤ l → l < 6 → inL n' f' (sA y l c, sE y)) → E u (nI n') co' si') :
    wX12_widen_L137 (nI wh) (nI g) st cl (nI (ps wh c)) E (nI 4) (nI n) co si := by
  have mA : ∀ {l c : Nat} {K : Int32 → Prop}, 4 ≤ l → l < 6 → S2 y c → K (nI (ps wh (sA y l c))) → wX12_closedOff (nI wh) (nI l) (nI (ps wh c)) cl K := fun h1 h2 h3 h => by rw [hy] at h h3; exact m_closedOff hw M h1 h2 h3 h
  have mi : ∀ {K : Int32 → Prop}, K (nI (ph wh (sE y))) → wX12_itself (nI wh) st K := fun h => by rw [hy] at h; exact m_itself hw M h
  have b := PS_b hok (hCP _ hp)
  unfold wX12_widen_L137
  intro P hP
  rcases hg with e | e
  · subst e
    refine hP _ _ _ _ ⟨fun g => absurd ((q_le (a := 6) (by omega) (by omega)).1 g) (by omega), fun _ => ⟨fun _ => h _ n f co si L (LE_r n f) (fun g => by omega), fun g => absurd rfl g⟩⟩
  · subst e
    refine q_cnt0 (Q := fun i => ∀ n' f' co' si', SL y wh C n' f' co' si' → LE n f n' f' → (∀ l, 4 ≤ l → l < i + 4 → inL n' f' (sA y l c, sE y)) → P (nI (i + 4)) (nI n') co' si') 2 ?_ ?_ n f co si L (LE_r n f) (fun l h1 h2 => by omega)
    · intro n' f' co' si' L' le hl
      exact hP _ _ _ _ ⟨fun _ => h _ n' f' co' si' L' le (fun _ => hl), fun g => absurd ((q_le (by omega) (by omega)).2 (Nat.le_refl 6)) g⟩
    · intro i hi ih n' f' co' si' L' le hl
      refine hP _ _ _ _ ⟨fun g => absurd ((q_le (a := 6) (by omega) (by omega)).1 g) (by omega), fun _ => ⟨fun g => absurd g (by decide), fun _ => ?_⟩⟩
      refine mA (l := i + 4) (by omega) (by omega) b.1 (mi ?_)
      have hn := hC2 rfl c x (i + 4) hp (by omega) (by omega)
      refine m_list hw hy hok nb L'.1 (hCP _ hn) (fun n2 f2 co2 si2 L2 l1 l2 l3 => ?_)
      intro z ez
      rw [ez, nI_1]
      refine ih n2 f2 co2 si2 ⟨L2, fun p hp => ?_⟩ (LE_t le ⟨l1, l2⟩) (fun l h1 h2 => ?_)
      · rcases (l3 p).1 hp with h | h
        · exact L'.2 p h
        · rw [h]; exact hn
      · by_cases e : l = i + 4
        · rw [e]; exact (l3 _).2 (.inr rfl)
        · exact LE_in ⟨l1, l2⟩ (hl l h1 (by omega))
def Scc (y : Sy) (g n : Nat) (f : Nat → Nat × Nat) (p : Nat × Nat) : Prop := (∀ s, stpS y (WS y) s → inL n f (imc p.1 s, thn p.2 s)) ∧ (g = 1 → ∀ l, 4 ≤ l → l < 6 → inL n f (sA y l p.1, sE y))
theorem Scc_e {g n n' : Nat} {f f' : Nat → Nat × Nat} {p : Nat × Nat} (h : Scc y g n f p) (le : LE n f n' f') : Scc y g n' f' p := ⟨fun s hs => LE_in le (h.1 s hs), fun e l h1 h2 => LE_in le (h.2 e l h1 h2)⟩
theorem m_widen (hw : wh < 3) (hy : y = syM wh n0 w0 n1 w1) (hok : SyOk y) (nb : ¬ Big (PS y)) (M : MdOk n0 m0 t0 w0 n1 m1 t1 w1 st mk tk pu go cl) {wn : Nat} {xs : Nat → Nat} {wo : Nat → Int32} (WW : WM y wh wn xs wo) (WE : Enum (WS y) xs wn) {g : Nat} (hg : g = 0 ∨ g = 1) {C : Nat × Nat → Prop} (hC : ∀ c x s, C (c, x) → stpS y (WS y) s → C (imc c s, thn x s)) (hC2 : g = 1 → ∀ c x l, C (c, x) → 4 ≤ l → l < 6 → C (sA y l c, sE y)) (hCP : ∀ p, C p → PS y p) {n : Nat} {f : Nat → Nat × Nat} {co si : Nat → Int32} (L : SL y wh C n f co si) {K : Int32 → (Nat → Int32) → (Nat → Int32) → Prop}
    (h : ∀ n' f' co' si', SL y wh C n' f' co' si' → LE n f n' f' → (∀ p, inL n' f' p → Scc y g n' f' p) → K (nI n') co' si') :
    wX12_widen (nI wh) (nI g) (nI wn) (nI n) st mk pu go cl wo co si K := by
  unfold wX12_widen wX12_widen_L2
  intro P hP
  refine q_cnt0 (Q := fun k => ∀ n' f' co' si', k ≤ n' → SL y wh C n' f' co' si' → LE n f n' f' → (∀ j, j < k → Scc y g n' f' (f' j)) → P (nI k) (nI n') co' si') 61 ?_ ?_ n f co si (by omega) L (LE_r n f) (fun j hj => by omega)
  · intro n' f' co' si' hk L' le hs
    have := L'.1.1
    omega
  · intro k hk ih n' f' co' si' hkn L' le hs
    have n60 := L'.1.1
    refine hP _ _ _ _ ?_
    rw [q_le (by omega) (by omega), q_in (by omega), q_cl (by omega)]
    refine ⟨fun g => h n' f' co' si' L' le (fun p ⟨i, hi, e⟩ => by rw [← e]; exact hs i (by omega)), fun g1 => ⟨by omega, fun x2 e2 => ⟨by omega, fun x3 e3 => ?_⟩⟩⟩
    have Lk := L'.1.2.1 k (by omega)
    rw [Lk.1] at e2
    rw [Lk.2.1] at e3
    subst e2; subst e3
    have hp : C ((f' k).1, (f' k).2) := L'.2 _ ⟨k, by omega, rfl⟩
    refine m_w29 hw hy hok nb M hC hCP L' hp (fun n2 f2 co2 si2 L2 le2 s2 => ?_)
    refine m_w71 hw hy hok nb M hC hCP WW L2 hp (fun n3 f3 co3 si3 L3 le3 s3 => ?_)
    intro E hE
    refine m_w137 hw hy hok nb M hg hC2 hCP L3 hp (fun u n4 f4 co4 si4 L4 le4 s4 => hE _ _ _ _ (fun z ez => ?_))
    rw [ez, nI_1]
    have l4 := LE_t le2 (LE_t le3 le4)
    refine ih n4 f4 co4 si4 (by have := l4.1; omega) L4 (LE_t le l4) (fun j hj => ?_)
    by_cases e : j = k
    · subst e
      rw [l4.2 j (by omega)]
      refine ⟨fun s hs => ?_, s4⟩
      rcases hs with e | e | ⟨a, e, o, ha, he, he6, ho, e2⟩
      · rw [e]; exact LE_in (LE_t le3 le4) (s2 2 (by omega) (by omega))
      · rw [e]; exact LE_in (LE_t le3 le4) (s2 3 (by omega) (by omega))
      · obtain ⟨i, hi, ei⟩ := WE.2.2 o ho
        have := s3 (4 * i + 2 * a + (e - 4)) (by omega)
        rw [show (4 * i + 2 * a + (e - 4)) % 4 / 2 = a from by omega, show 4 + (4 * i + 2 * a + (e - 4)) % 2 = e from by omega, show (4 * i + 2 * a + (e - 4)) / 4 = i from by omega, ei, ← e2] at this
        exact LE_in le4 this
    · rw [l4.2 j (by omega)]
      exact Scc_e (hs j (by omega)) l4
end
