/-- what judging a set of codes gives -/
def JV (t : Nat) (Q : Nat → Prop) (v : Nat) : Prop := v < 4 ∧ (v % 2 = 1 ↔ ∃ c, Q c ∧ tkB t c = true) ∧ (v / 2 = 1 ↔ ∃ c, Q c ∧ tkB t c = false)
theorem or4 : ∀ a, a < 4 → ∀ b, b < 4 → a ||| b < 4 ∧ ((a ||| b) % 2 = 1 ↔ (a % 2 = 1 ∨ b % 2 = 1)) ∧ ((a ||| b) / 2 = 1 ↔ (a / 2 = 1 ∨ b / 2 = 1)) := by decide
theorem JV_or {t : Nat} {Q Q' : Nat → Prop} {a b : Nat} (h : JV t Q a) (h' : JV t Q' b) : JV t (fun c => Q c ∨ Q' c) (a ||| b) := by
  have o := or4 a h.1 b h'.1
  refine ⟨o.1, ?_, ?_⟩
  · rw [o.2.1, h.2.1, h'.2.1]
    constructor
    · rintro (⟨c, g1, g2⟩ | ⟨c, g1, g2⟩)
      · exact ⟨c, .inl g1, g2⟩
      · exact ⟨c, .inr g1, g2⟩
    · rintro ⟨c, g1 | g1, g2⟩
      · exact .inl ⟨c, g1, g2⟩
      · exact .inr ⟨c, g1, g2⟩
  · rw [o.2.2, h.2.2, h'.2.2]
    constructor
    · rintro (⟨c, g1, g2⟩ | ⟨c, g1, g2⟩)
      · exact ⟨c, .inl g1, g2⟩
      · exact ⟨c, .inr g1, g2⟩
    · rintro ⟨c, g1 | g1, g2⟩
      · exact .inl ⟨c, g1, g2⟩
      · exact .inr ⟨c, g1, g2⟩
theorem JV_congr {t : Nat} {Q Q' : Nat → Prop} {a : Nat} (h : JV t Q a) (e : ∀ c, Q c ↔ Q' c) : JV t Q' a := by
  refine ⟨h.1, ?_, ?_⟩
  · rw [h.2.1]; simp only [e]
  · rw [h.2.2]; simp only [e]
theorem JV_det {t : Nat} {Q : Nat → Prop} {a b : Nat} (h : JV t Q a) (h' : JV t Q b) : a = b := by
  have h1 := h.2.1.trans h'.2.1.symm
  have h2 := h.2.2.trans h'.2.2.symm
  have := h.1
  have := h'.1
  omega
theorem JV_0 {t : Nat} : JV t (fun _ => False) 0 := ⟨by omega, by simp, by simp⟩
theorem JV_1 {t c : Nat} : JV t (fun d => d = c) (if tkB t c then 1 else 2) := by
  cases e : tkB t c
  · rw [if_neg (by decide)]
    refine ⟨by omega, ⟨fun g => absurd g (by decide), ?_⟩, ⟨fun _ => ⟨c, rfl, e⟩, fun _ => rfl⟩⟩
    rintro ⟨d, rfl, g⟩
    rw [e] at g; exact absurd g (by decide)
  · rw [if_pos rfl]
    refine ⟨by omega, ⟨fun _ => ⟨c, rfl, e⟩, fun _ => rfl⟩, ⟨fun g => absurd g (by decide), ?_⟩⟩
    rintro ⟨d, rfl, g⟩
    rw [e] at g; exact absurd g (by decide)
theorem tk_r : ∀ r, r < 2 → ∀ c, c < 8 → ∀ t, t < 8 → (nI (ps r c) >>> ((3 * nI r) &&& 31)) &&& nI t = nI (c &&& t) := by decide +kernel
section
variable {n0 m0 t0 n1 m1 t1 : Nat} {w0 w1 : Nat → Nat} {st mk tk pu go cl : Nat → Int32} {y : Sy}
theorem m_takeR {r : Nat} (hr : r < 2) (M : MdOk n0 m0 t0 w0 n1 m1 t1 w1 st mk tk pu go cl) {c : Nat} (hc : c < 8) {K : Int32 → Prop} (h : K (nI (if tkB (sel r t0 t1) c then 1 else 0))) : wX12_doesTake (nI r) (nI (ps r c)) tk K := by
  obtain ⟨W, _, _, et⟩ := MdOk_r M hr
  have l := p2_8 W.2.1 W.2.2.2.2.1
  unfold wX12_doesTake
  rw [q_in (by omega), q_cl (by omega), et, tk_r r hr c hc _ l, show (nI (c &&& sel r t0 t1) = (0 : Int32)) = (nI (c &&& sel r t0 t1) = nI 0) from rfl, q_eq (by have := Nat.and_le_left (n := c) (m := sel r t0 t1); omega) (by omega)]
  unfold tkB at h
  refine ⟨hr, fun g => ?_, fun g => ?_⟩
  · rw [g] at h; exact h
  · have e : (!(c &&& sel r t0 t1 == 0)) = true := by simp [g]
    rw [e] at h; exact h
theorem syM_2 {r : Nat} (hr : r < 2) : (syM r n0 w0 n1 w1).2 = (0, fun _ => 0) := by
  rcases (show r = 0 ∨ r = 1 by omega) with e | e <;> subst e <;> rfl
theorem m_judge {r : Nat} (hr : r < 2) (hy : y = syM r n0 w0 n1 w1) (hok : SyOk y) (M : MdOk n0 m0 t0 w0 n1 m1 t1 w1 st mk tk pu go cl) {n : Nat} {f : Nat → Nat × Nat} {co si : Nat → Int32} (L : LL y r n f co si) {K : Int32 → Prop}
    (h : ∀ v, JV (sel r t0 t1) (fun c => ∃ x, inL n f (c, x)) v → K (nI v)) : wX12_judge (nI r) (nI n) tk co K := by
  have n60 := L.1
  unfold wX12_judge wX12_judge_L4
  intro P hP
  refine q_cnt0 (Q := fun i => ∀ v, JV (sel r t0 t1) (fun c => ∃ j, j < i ∧ (f j).1 = c) v → P (nI v) (nI i)) n ?_ ?_ 0 (JV_congr JV_0 (fun c => ⟨False.elim, fun ⟨j, hj, _⟩ => by omega⟩))
  · intro v hv
    refine hP _ _ ⟨fun _ => h v (JV_congr hv (fun c => ⟨fun ⟨j, hj, e⟩ => ⟨(f j).2, j, hj, by rw [← e]⟩, fun ⟨x, j, hj, e⟩ => ⟨j, hj, by rw [e]⟩⟩)), fun g => absurd ((q_le (by omega) (by omega)).2 (Nat.le_refl n)) g⟩
  · intro i hi ih v hv
    refine hP _ _ ⟨fun g => absurd ((q_le (by omega) (by omega)).1 g) (by omega), fun _ => ?_⟩
    have Li := L.2.1 i hi
    have c8 : (f i).1 < 8 := S2_1 (PS_b hok Li.2.2).1 (by rw [hy]; exact syM_2 hr)
    rw [q_in (by omega), q_cl (by omega), Li.1]
    refine ⟨by omega, m_takeR hr M c8 ?_⟩
    have J := JV_or hv (JV_1 (t := sel r t0 t1) (c := (f i).1))
    have J := JV_congr J (Q' := fun c => ∃ j, j < i + 1 ∧ (f j).1 = c) (fun c => ⟨fun g => by
      rcases g with ⟨j, hj, e⟩ | e
      · exact ⟨j, by omega, e⟩
      · exact ⟨i, by omega, e.symm⟩, fun ⟨j, hj, e⟩ => by
      by_cases e2 : j = i
      · subst e2; exact .inr e.symm
      · exact .inl ⟨j, by omega, e⟩⟩)
    have ih := ih _ J
    cases e : tkB (sel r t0 t1) (f i).1 <;> rw [e] at ih
    · refine ⟨fun _ a ea b eb => ?_, fun g => absurd rfl g⟩
      rw [ea, eb, nI_1, show (2 : Int32) = nI 2 from rfl, q_or]; exact ih
    · refine ⟨fun g => absurd g (by decide), fun _ a ea b eb => ?_⟩
      rw [ea, eb, nI_1, show (1 : Int32) = nI 1 from rfl, q_or]; exact ih
theorem m_putAside {n : Nat} (n60 : n ≤ 60) {co si nc ns : Nat → Int32} {nx : Int32} {K : Int32 → (Nat → Int32) → (Nat → Int32) → Prop} (h : ∀ nc' ns' : Nat → Int32, (∀ j, j < n → nc' j = co j ∧ ns' j = si j) → K (nI n) nc' ns') : wX12_putAside (nI n) nx co si nc ns K := by
  unfold wX12_putAside wX12_putAside_L2
  intro P hP
  refine q_cnt0 (Q := fun i => ∀ nc' ns' : Nat → Int32, (∀ j, j < i → nc' j = co j ∧ ns' j = si j) → P (nI i) nc' ns') n ?_ ?_ nc ns (fun j hj => by omega)
  · intro a b H
    exact hP _ _ _ ⟨fun _ => h a b H, fun g => absurd ((q_le (by omega) (by omega)).2 (Nat.le_refl n)) g⟩
  · intro i hi ih a b H
    refine hP _ _ _ ⟨fun g => absurd ((q_le (by omega) (by omega)).1 g) (by omega), fun _ => ?_⟩
    rw [q_in (by omega), q_cl (by omega)]
    refine ⟨by omega, by omega, fun g2 e2 => ⟨by omega, by omega, fun g3 e3 z ez => ?_⟩⟩
    rw [ez, nI_1, e2, e3]
    refine ih _ _ (fun j hj => ?_)
    rw [q_ap, q_ap]
    by_cases e : j = i
    · rw [if_pos e, if_pos e, e]; exact ⟨rfl, rfl⟩
    · rw [if_neg e, if_neg e]; exact H j (by omega)
/-- what stands deeper than the places of a set -/
def DPs (y : Sy) (A : Nat × Nat → Prop) (p : Nat × Nat) : Prop := ∀ P : Nat × Nat → Prop, (∀ p l, A p → l < 2 → P (sA y l p.1, sE y)) → (∀ c x s, P (c, x) → stpS y (WS y) s → P (imc c s, thn x s)) → (∀ c x l, P (c, x) → l < 2 → P (sA y l c, sE y)) → P p
theorem DPs_PS {A : Nat × Nat → Prop} (hA : ∀ p, A p → PS y p) {p : Nat × Nat} (h : DPs y A p) : PS y p := h (PS y) (fun p l hp hl => by obtain ⟨d, hn⟩ := hA p hp; exact ⟨true, NS_open hn hl⟩) (fun c x s ⟨d, hn⟩ hs => ⟨d, NS_stp hn hs⟩) (fun c x l ⟨d, hn⟩ hl => ⟨true, NS_open hn hl⟩)
theorem m_opn {r : Nat} (hr : r < 2) (hy : y = syM r n0 w0 n1 w1) (hok : SyOk y) (nb : ¬ Big (PS y)) (M : MdOk n0 m0 t0 w0 n1 m1 t1 w1 st mk tk pu go cl) {C : Nat × Nat → Prop} (hCP : ∀ p, C p → PS y p) {n : Nat} {f : Nat → Nat × Nat} {co si : Nat → Int32} (L : SL y r C n f co si) {l c : Nat} (hl : l < 2) (hc : S2 y c) (hp : C (sA y l c, sE y)) {K : Int32 → (Nat → Int32) → (Nat → Int32) → Prop}
    (h : ∀ n' f' co' si', SL y r C n' f' co' si' → LE n f n' f' → inL n' f' (sA y l c, sE y) → (∀ p, inL n' f' p → inL n f p ∨ p = (sA y l c, sE y)) → K (nI n') co' si') :
    wX12_opened (nI r) (nI l) (nI (ps r c)) pu (fun r1 => wX12_itself (nI r) st (fun r2 => wX12_list r1 r2 (nI n) co si K)) := by
  have mO : ∀ {l c : Nat} {K : Int32 → Prop}, l < 2 → S2 y c → K (nI (ps r (sA y l c))) → wX12_opened (nI r) (nI l) (nI (ps r c)) pu K := fun h1 h2 h => by rw [hy] at h h2; exact m_opened (by omega) M h1 h2 h
  have mi : ∀ {K : Int32 → Prop}, K (nI (ph r (sE y))) → wX12_itself (nI r) st K := fun h => by rw [hy] at h; exact m_itself (by omega) M h
  refine mO hl hc (mi ?_)
  refine m_list (by omega) hy hok nb L.1 (hCP _ hp) (fun n' f' co' si' L' l1 l2 l3 => h n' f' co' si' ⟨L', fun p hq => ?_⟩ ⟨l1, l2⟩ ((l3 _).2 (.inr rfl)) (fun p hp => (l3 p).1 hp))
  rcases (l3 p).1 hq with h | h
  · exact L.2 p h
  · rw [h]; exact hp
theorem m_judgeDeeper {r : Nat} (hr : r < 2) (hy : y = syM r n0 w0 n1 w1) (hok : SyOk y) (nb : ¬ Big (PS y)) (M : MdOk n0 m0 t0 w0 n1 m1 t1 w1 st mk tk pu go cl) {wn : Nat} {xs : Nat → Nat} {wo : Nat → Int32} (WW : WM y r wn xs wo) (WE : Enum (WS y) xs wn) {nn : Nat} {fn : Nat → Nat × Nat} {nc ns : Nat → Int32} (N : LL y r nn fn nc ns) {li : Int32} {co si : Nat → Int32} {K : Int32 → Int32 → (Nat → Int32) → (Nat → Int32) → Prop}
    (h : ∀ v n' f' co' si', LL y r n' f' co' si' → JV (sel r t0 t1) (fun c => ∃ x, DPs y (inL nn fn) (c, x)) v → K (nI v) (nI n') co' si') :
    wX12_judgeDeeper (nI r) (nI wn) li (nI nn) st mk tk pu go cl wo co si nc K := by
  have nn60 := N.1
  have hD1 : ∀ p l, inL nn fn p → l < 2 → DPs y (inL nn fn) (sA y l p.1, sE y) := fun p l hp hl P h1 h2 h3 => h1 p l hp hl
  have hD2 : ∀ c x s, DPs y (inL nn fn) (c, x) → stpS y (WS y) s → DPs y (inL nn fn) (imc c s, thn x s) := fun c x s hp hs P h1 h2 h3 => h2 c x s (hp P h1 h2 h3) hs
  have hD3 : ∀ c x l, DPs y (inL nn fn) (c, x) → l < 2 → DPs y (inL nn fn) (sA y l c, sE y) := fun c x l hp hl P h1 h2 h3 => h3 c x l (hp P h1 h2 h3) hl
  have hDP : ∀ p, DPs y (inL nn fn) p → PS y p := fun p hp => DPs_PS (fun p ⟨i, hi, e⟩ => by rw [← e]; exact (N.2.1 i hi).2.2) hp
  unfold wX12_judgeDeeper wX12_judgeDeeper_L7
  intro P7 hP7
  refine q_cnt0 (Q := fun k => ∀ n f co si, SL y r (DPs y (inL nn fn)) n f co si → (∀ j l, j < k → l < 2 → inL n f (sA y l (fn j).1, sE y)) → P7 (nI k) (nI n) co si) nn ?_ ?_ 0 (fun _ => (0, 0)) co si ⟨LL_0 y r _ co si, fun p ⟨i, hi, _⟩ => by omega⟩ (fun j l hj => by omega)
  · intro n f co si L hop
    refine hP7 _ _ _ _ ⟨fun _ => ?_, fun g => absurd ((q_le (by omega) (by omega)).2 (Nat.le_refl nn)) g⟩
    unfold wX12_judgeDeeper_L57
    intro P hP
    have key : ∀ m had n f co si, 61 - had ≤ m → had ≤ n → SL y r (DPs y (inL nn fn)) n f co si → (∀ j l, j < nn → l < 2 → inL n f (sA y l (fn j).1, sE y)) → (had = n → (∀ p, inL n f p → Scc y 0 n f p) ∧ ∀ p l, inL n f p → l < 2 → inL n f (sA y l p.1, sE y)) → P (nI had) (nI n) co si := by
      intro m
      induction m with
      | zero =>
        intro had n f co si hm hh L
        have := L.1.1
        omega
      | succ m ih =>
        intro had n f co si hm hh L hop hcl
        have n60 := L.1.1
        refine hP _ _ _ _ ?_
        rw [q_le (by omega) (by omega)]
        refine ⟨fun g => ?_, fun g => ?_⟩
        · have hcl := hcl (by omega)
          refine m_judge hr hy hok M L.1 (fun v hv => h v n f co si L.1 (JV_congr hv (fun c => ⟨fun ⟨x, hx⟩ => ⟨x, L.2 _ hx⟩, fun ⟨x, hx⟩ => ⟨x, ?_⟩⟩)))
          exact hx (inL n f) (fun p l ⟨j, hj, e⟩ hl => by rw [← e]; exact hop j l hj hl) (fun c x s hp hs => (hcl.1 _ hp).1 s hs) (fun c x l hp hl => hcl.2 _ l hp hl)
        · refine m_widen (g := 0) (by omega) hy hok nb M WW WE (.inl rfl) hD2 (fun g => by omega) hDP L (fun n2 f2 co2 si2 L2 le2 sc2 => ?_)
          have n260 := L2.1.1
          unfold wX12_judgeDeeper_L84
          intro P84 hP84
          refine q_cnt0 (Q := fun k => ∀ n3 f3 co3 si3, SL y r (DPs y (inL nn fn)) n3 f3 co3 si3 → LE n2 f2 n3 f3 → (∀ j l, j < k → l < 2 → inL n3 f3 (sA y l (f2 j).1, sE y)) → P84 (nI k) (nI n3) co3 si3) n2 ?_ ?_ n2 f2 co2 si2 L2 (LE_r n2 f2) (fun j l hj => by omega)
          · intro n3 f3 co3 si3 L3 le3 ho3
            refine hP84 _ _ _ _ ⟨fun _ => ?_, fun g => absurd ((q_le (by omega) (by omega)).2 (Nat.le_refl n2)) g⟩
            refine ih n n3 f3 co3 si3 (by omega) (by have := (LE_t le2 le3).1; omega) L3 (fun j l hj hl => LE_in (LE_t le2 le3) (hop j l hj hl)) (fun e => ?_)
            have a1 := le2.1
            have a2 := le3.1
            have e2 : n2 = n3 := by omega
            subst e2
            refine ⟨fun p ⟨i, hi, ei⟩ => ?_, fun p l ⟨i, hi, ei⟩ hl => ?_⟩
            · rw [le3.2 i hi] at ei
              exact Scc_e (sc2 p ⟨i, hi, ei⟩) le3
            · rw [le3.2 i hi] at ei
              rw [← ei]; exact ho3 i l hi hl
          · intro k hk ihk n3 f3 co3 si3 L3 le3 ho3
            refine hP84 _ _ _ _ ⟨fun g => absurd ((q_le (by omega) (by omega)).1 g) (by omega), fun _ => ?_⟩
            unfold wX12_judgeDeeper_L93
            intro P93 hP93
            refine q_cnt0 (Q := fun l => ∀ n4 f4 co4 si4, SL y r (DPs y (inL nn fn)) n4 f4 co4 si4 → LE n3 f3 n4 f4 → (∀ l', l' < l → inL n4 f4 (sA y l' (f2 k).1, sE y)) → P93 (nI l) (nI n4) co4 si4) 2 ?_ ?_ n3 f3 co3 si3 L3 (LE_r n3 f3) (fun l' hl => by omega)
            · intro n4 f4 co4 si4 L4 le4 ho4
              refine hP93 _ _ _ _ ⟨fun _ => ?_, fun g => absurd ((q_le (by omega) (by omega)).2 (Nat.le_refl 2)) g⟩
              intro z ez
              rw [ez, nI_1]
              refine ihk n4 f4 co4 si4 L4 (LE_t le3 le4) (fun j l hj hl => ?_)
              by_cases e : j = k
              · rw [e]; exact ho4 l hl
              · exact LE_in le4 (ho3 j l (by omega) hl)
            · intro l hl ihl n4 f4 co4 si4 L4 le4 ho4
              refine hP93 _ _ _ _ ⟨fun g => absurd ((q_le (a := 2) (by omega) (by omega)).1 g) (by omega), fun _ => ?_⟩
              have l4 := LE_t le3 le4
              have k4 : k < n4 := Nat.lt_of_lt_of_le hk l4.1
              have n460 := L4.1.1
              have Lk := L4.1.2.1 k k4
              have ek : f4 k = f2 k := l4.2 k hk
              rw [q_in (by omega), q_cl (by omega), Lk.1, ek]
              refine ⟨by omega, ?_⟩
              have hck : DPs y (inL nn fn) ((f2 k).1, (f2 k).2) := by rw [← ek]; exact L4.2 _ ⟨k, k4, rfl⟩
              refine m_opn hr hy hok nb M hDP L4 hl (PS_b hok (hDP _ hck)).1 (hD3 _ _ l hck hl) (fun n5 f5 co5 si5 L5 le5 hin _ => ?_)
              intro z ez
              rw [ez, nI_1]
              refine ihl n5 f5 co5 si5 L5 (LE_t le4 le5) (fun l' hl' => ?_)
              by_cases e : l' = l
              · rw [e]; exact hin
              · exact LE_in le5 (ho4 l' (by omega))
    exact key 61 0 n f co si (by omega) (by omega) L hop (fun e => ⟨fun p ⟨i, hi, _⟩ => by omega, fun p l ⟨i, hi, _⟩ => by omega⟩)
  · intro k hk ih n f co si L hop
    refine hP7 _ _ _ _ ⟨fun g => absurd ((q_le (by omega) (by omega)).1 g) (by omega), fun _ => ?_⟩
    unfold wX12_judgeDeeper_L17
    intro P17 hP17
    refine q_cnt0 (Q := fun l => ∀ n4 f4 co4 si4, SL y r (DPs y (inL nn fn)) n4 f4 co4 si4 → LE n f n4 f4 → (∀ l', l' < l → inL n4 f4 (sA y l' (fn k).1, sE y)) → P17 (nI l) (nI n4) co4 si4) 2 ?_ ?_ n f co si L (LE_r n f) (fun l' hl => by omega)
    · intro n4 f4 co4 si4 L4 le4 ho4
      refine hP17 _ _ _ _ ⟨fun _ => ?_, fun g => absurd ((q_le (by omega) (by omega)).2 (Nat.le_refl 2)) g⟩
      intro z ez
      rw [ez, nI_1]
      refine ih n4 f4 co4 si4 L4 (fun j l hj hl => ?_)
      by_cases e : j = k
      · rw [e]; exact ho4 l hl
      · exact LE_in le4 (hop j l (by omega) hl)
    · intro l hl ihl n4 f4 co4 si4 L4 le4 ho4
      refine hP17 _ _ _ _ ⟨fun g => absurd ((q_le (a := 2) (by omega) (by omega)).1 g) (by omega), fun _ => ?_⟩
      have Nk := N.2.1 k hk
      rw [q_in (by omega), q_cl (by omega), Nk.1]
      refine ⟨by omega, ?_⟩
      refine m_opn hr hy hok nb M hDP L4 hl (PS_b hok Nk.2.2).1 (hD1 _ l ⟨k, hk, rfl⟩ hl) (fun n5 f5 co5 si5 L5 le5 hin _ => ?_)
      intro z ez
      rw [ez, nI_1]
      refine ihl n5 f5 co5 si5 L5 (LE_t le4 le5) (fun l' hl' => ?_)
      by_cases e : l' = l
      · rw [e]; exact hin
      · exact LE_in le5 (ho4 l' (by omega))
end
