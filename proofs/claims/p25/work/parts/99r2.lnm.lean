section
variable {n0 m0 t0 n1 m1 t1 : Nat} {w0 w1 : Nat → Nat} {st mk tk pu go cl : Nat → Int32} {y : Sy}
theorem m_sought (M : MdOk n0 m0 t0 w0 n1 m1 t1 w1 st mk tk pu go cl) {q : Nat} (hq : q < 64) {s : Int32} {K : Int32 → Prop} (h : ∀ r, (t0 = 0 → t1 = 0 → r = 0) → K r) : wX12_isSought (nI q) s tk K := by
  have mt := m_take2 M hq
  unfold wX12_isSought
  refine mt.1 (mt.2 ?_)
  have z0 : t0 = 0 → (nI (if tkB t0 (q % 8) then 1 else 0) : Int32) = 0 := fun e => by rw [e, tk_0]; rfl
  have z1 : t1 = 0 → (nI (if tkB t1 (q / 8 % 8) then 1 else 0) : Int32) = 0 := fun e => by rw [e, tk_0]; rfl
  refine ⟨fun _ => h _ (fun e _ => z0 e), fun _ => ⟨fun _ => h _ (fun _ e => z1 e), fun _ => ⟨fun _ => ⟨fun _ => h _ (fun _ _ => rfl), fun g => ⟨fun _ => h _ (fun _ _ => rfl), fun _ => h _ (fun e _ => absurd (z0 e) g)⟩⟩, fun _ => ⟨fun _ => h _ (fun _ _ => rfl), fun g => h _ (fun e e' => absurd (by rw [z0 e, z1 e']) g)⟩⟩⟩⟩
theorem m_shOf {wh : Nat} (hw : wh < 3) (hy : y = syM wh n0 w0 n1 w1) (hok : SyOk y) (M : MdOk n0 m0 t0 w0 n1 m1 t1 w1 st mk tk pu go cl) {n : Nat} {nd : Nat → Nd} {co si de lo : Nat → Int32} (WN' : WN y wh n nd co si de) {s : Int32} {K : Int32 → Prop} (h : ∀ v, (t0 = 0 → t1 = 0 → v = -nI 1) → K v) : wX12_shortestOf s (nI n) tk co lo K := by
  have n120 := WN'.1
  unfold wX12_shortestOf wX12_shortestOf_L4
  intro P hP
  refine q_cnt0 (Q := fun k => ∀ v : Int32, (t0 = 0 → t1 = 0 → v = -nI 1) → P v (nI k)) n ?_ ?_ (-1) (fun _ _ => rfl)
  · intro v hv
    exact hP _ _ ⟨fun _ => h v hv, fun g => absurd ((q_le (by omega) (by omega)).2 (Nat.le_refl n)) g⟩
  · intro k hk ih v hv
    refine hP _ _ ⟨fun g => absurd ((q_le (by omega) (by omega)).1 g) (by omega), fun _ => ?_⟩
    obtain ⟨wc, ws, wd, wt⟩ := WN'.2.1 k hk
    have bn := PS_b hok ⟨_, wt⟩
    rw [q_in (by omega), q_cl (by omega), wc]
    refine ⟨by omega, m_sought M (ps_lt hw hy bn.1) (fun r hr => ?_)⟩
    refine ⟨fun _ x ex => by rw [ex, nI_1]; exact ih v hv, fun g => ?_⟩
    have no : ∀ {Q : Prop}, t0 = 0 → t1 = 0 → Q := fun e e' => absurd (hr e e') g
    exact ⟨fun _ => ⟨by omega, fun x _ z ez => by rw [ez, nI_1]; exact ih _ (fun e e' => no e e')⟩, fun _ => ⟨by omega, fun _ x ex => by rw [ex, nI_1]; exact ih v hv, fun _ => ⟨by omega, fun x _ z ez => by rw [ez, nI_1]; exact ih _ (fun e e' => no e e')⟩⟩⟩
end
theorem m_shortest_w {n0 m0 t0 n1 m1 t1 : Nat} {w0 w1 : Nat → Nat} {st mk tk pu go cl : Nat → Int32} (M : MdOk n0 m0 t0 w0 n1 m1 t1 w1 st mk tk pu go cl) {x kn sp wz nz pz : Int32} {wo wl co si de lo : Nat → Int32} (C : FPc n0 w0 n1 w1 kn sp wz nz pz wo co si de)
    {K : Int32 → Int32 → Int32 → Int32 → Int32 → Int32 → (Nat → Int32) → (Nat → Int32) → (Nat → Int32) → (Nat → Int32) → (Nat → Int32) → (Nat → Int32) → Prop}
    (h1 : ∀ r v, r < 2 → x = nI r → shV (syM r n0 w0 n1 w1) (t0 = 0 ∧ t1 = 0) v → ∀ kn sp wz nz pz wo wl co si de lo, FPc n0 w0 n1 w1 kn sp wz nz pz wo co si de → K v kn sp wz nz pz wo wl co si de lo)
    (h2 : (∀ r, r < 2 → x ≠ nI r) → K (-nI 2) kn sp wz nz pz wo wl co si de lo) :
    wX12_shortest x kn sp wz nz pz st mk tk pu go cl wo wl co si de lo K := by
  unfold wX12_shortest
  refine q_isR (fun r hr e => ⟨fun g => absurd g (by decide), fun _ => ?_⟩) (fun g => ⟨fun _ => h2 g, fun g => absurd rfl g⟩)
  subst e
  have hok := syM_ok (wh := r) (by omega) M
  refine m_findPlaces (by omega) rfl M (C r (by omega)) (fun sp wz nz pz wo wl co si de lo F => ?_)
  have C' : FPc n0 w0 n1 w1 (nI r) sp wz nz pz wo co si de := fun wh' h' e => by
    rw [q_eq (by omega) (by omega)] at e
    subst e
    exact F
  have fin := fun v hv => h1 r v hr rfl hv (nI r) sp wz nz pz wo wl co si de lo C'
  rcases F with ⟨e, hb⟩ | ⟨e, wn, xs, n, nd, p, ew, en, ep, hp, WW, WE, hW, n1', d0, hE, f, hf⟩
  · rw [e] at fin ⊢
    exact ⟨fun g => absurd g (by decide), fun _ => fin _ (.inl ⟨hb, rfl⟩)⟩
  · have nb : ¬ Big (PS (syM r n0 w0 n1 w1)) := fun hb => by have := Enum_Big hf hb; omega
    rw [e, en] at fin ⊢
    exact ⟨fun _ => m_shOf (by omega) rfl hok M hW (fun v hv => fin v (.inr ⟨nb, fun z => hv z.1 z.2⟩)), fun g => absurd rfl g⟩
theorem m_first_w {n0 m0 t0 n1 m1 t1 : Nat} {w0 w1 : Nat → Nat} {st mk tk pu go cl : Nat → Int32} (M : MdOk n0 m0 t0 w0 n1 m1 t1 w1 st mk tk pu go cl) {x p a b c kn sp wz nz pz : Int32} {so sc ss sl wo wl co si de lo : Nat → Int32} (C : FPc n0 w0 n1 w1 kn sp wz nz pz wo co si de)
    {K : Int32 → Int32 → Int32 → Int32 → Int32 → Int32 → Int32 → Int32 → Int32 → (Nat → Int32) → (Nat → Int32) → (Nat → Int32) → (Nat → Int32) → (Nat → Int32) → (Nat → Int32) → (Nat → Int32) → (Nat → Int32) → (Nat → Int32) → (Nat → Int32) → Prop}
    (h1 : ∀ r k v, r < 2 → x = nI r → k < 2147483648 → p = nI k → shV (syM r n0 w0 n1 w1) (t0 = 0 ∧ t1 = 0) v → ∀ a b c kn sp wz nz pz so sc ss sl wo wl co si de lo, FPc n0 w0 n1 w1 kn sp wz nz pz wo co si de → K v a b c kn sp wz nz pz so sc ss sl wo wl co si de lo)
    (h3 : ∀ r, r < 2 → x = nI r → (∀ k, k < 2147483648 → p ≠ nI k) → K (-nI 3) a b c kn sp wz nz pz so sc ss sl wo wl co si de lo)
    (h2 : (∀ r, r < 2 → x ≠ nI r) → K (-nI 2) a b c kn sp wz nz pz so sc ss sl wo wl co si de lo) :
    wX12_first x p a b c kn sp wz nz pz st mk tk pu go cl so sc ss sl wo wl co si de lo K := by
  unfold wX12_first
  refine q_isR (fun r hr e => ⟨fun g => absurd g (by decide), fun _ => ?_⟩) (fun g => ⟨fun _ => h2 g, fun g => absurd rfl g⟩)
  refine ⟨fun g4 => ?_, fun g4 => h3 r hr e (fun k hk ek => g4 (by rw [ek]; exact (q_le (a := 0) (by omega) hk).2 (Nat.zero_le k)))⟩
  obtain ⟨k, hk, ek⟩ := q_nn (x := p) (fun g5 => by
    rw [Int32.lt_iff_toInt_lt] at g5
    rw [Int32.le_iff_toInt_le] at g4
    omega)
  subst ek
  subst e
  have hok := syM_ok (wh := r) (by omega) M
  refine m_findPlaces (by omega) rfl M (C r (by omega)) (fun sp wz nz pz wo wl co si de lo F => ?_)
  have C' : FPc n0 w0 n1 w1 (nI r) sp wz nz pz wo co si de := fun wh' h' e => by
    rw [q_eq (by omega) (by omega)] at e
    subst e
    exact F
  have fin := fun v hv a b c so sc ss sl => h1 r k v hr rfl hk rfl hv a b c (nI r) sp wz nz pz so sc ss sl wo wl co si de lo C'
  rcases F with ⟨e, hb⟩ | ⟨e, wn, xs, n, nd, p, ew, en, ep, hp, WW, WE, hW, n1', d0, hE, f, hf⟩
  · rw [e] at fin ⊢
    exact ⟨fun g => absurd g (by decide), fun _ => fin _ (.inl ⟨hb, rfl⟩) _ _ _ _ _ _ _⟩
  · have nb : ¬ Big (PS (syM r n0 w0 n1 w1)) := fun hb => by have := Enum_Big hf hb; omega
    rw [e, en] at fin ⊢
    refine ⟨fun _ => m_shOf (by omega) rfl hok M hW (fun v hv => ?_), fun g => absurd rfl g⟩
    have f1 := fun u (hu : t0 = 0 ∧ t1 = 0 → u = -nI 1) => fin u (.inr ⟨nb, hu⟩)
    refine ⟨fun _ => f1 _ (fun _ => rfl) _ _ _ _ _ _ _, fun g1 => ⟨fun _ => f1 _ (fun _ => rfl) _ _ _ _ _ _ _, fun g2 => ⟨fun g3 => ?_, fun _ => f1 _ (fun _ => rfl) _ _ _ _ _ _ _⟩⟩⟩
    have nn : ¬ v < 0 := fun g5 => by
      rw [Int32.lt_iff_toInt_lt] at g5 g3
      rw [nI_toInt hk] at g3
      have : (0 : Int32).toInt = 0 := by decide
      omega
    obtain ⟨i, hi, ei⟩ := q_nn nn
    subst ei
    have i5 : i ≤ 5 := by
      rcases Nat.lt_or_ge 5 i with g | g
      · exact absurd ((q_lt (a := 5) (by omega) hi).2 g) g2
      · exact g
    rw [show (0 : Int32) = nI 0 from rfl]
    exact m_letterOf hr M i5 (by omega) hk (fun u a b c so sc ss sl hu => f1 u (fun z => ((q_neg hi).1 (hv z.1 z.2)).elim) a b c so sc ss sl)
theorem m_two_w {n0 m0 t0 n1 m1 t1 : Nat} {w0 w1 : Nat → Nat} {st mk tk pu go cl : Nat → Int32} (M : MdOk n0 m0 t0 w0 n1 m1 t1 w1 st mk tk pu go cl) {kn sp wz nz pz : Int32} {wo wl co si de lo : Nat → Int32} (C : FPc n0 w0 n1 w1 kn sp wz nz pz wo co si de)
    {K : Int32 → Int32 → Int32 → Int32 → Int32 → Int32 → (Nat → Int32) → (Nat → Int32) → (Nat → Int32) → (Nat → Int32) → (Nat → Int32) → (Nat → Int32) → Prop}
    (h1 : ∀ v, shV (syM 2 n0 w0 n1 w1) (t0 = 0 ∧ t1 = 0) v → ∀ kn sp wz nz pz wo wl co si de lo, FPc n0 w0 n1 w1 kn sp wz nz pz wo co si de → K v kn sp wz nz pz wo wl co si de lo) :
    wX12_parted kn sp wz nz pz st mk tk pu go cl wo wl co si de lo K ∧ wX12_both kn sp wz nz pz st mk tk pu go cl wo wl co si de lo K := by
  have hok := syM_ok (wh := 2) (by omega) M
  constructor
  · unfold wX12_parted
    refine m_findPlaces (wh := 2) (by omega) rfl M (C 2 (by omega)) (fun sp wz nz pz wo wl co si de lo F => ?_)
    have C' : FPc n0 w0 n1 w1 (nI 2) sp wz nz pz wo co si de := fun wh' h' e => by
      rw [q_eq (by omega) (by omega)] at e
      subst e
      exact F
    have fin := fun v hv => h1 v hv (nI 2) sp wz nz pz wo wl co si de lo C'
    rcases F with ⟨e, hb⟩ | ⟨e, wn, xs, n, nd, p, ew, en, ep, hp, WW, WE, hW, n1', d0, hE, f, hf⟩
    · rw [e] at fin ⊢
      exact ⟨fun g => absurd g (by decide), fun _ => fin _ (.inl ⟨hb, rfl⟩)⟩
    · have nb : ¬ Big (PS (syM 2 n0 w0 n1 w1)) := fun hb => by have := Enum_Big hf hb; omega
      rw [e, en] at fin ⊢
      exact ⟨fun _ => m_shOf (wh := 2) (by omega) rfl hok M hW (fun v hv => fin v (.inr ⟨nb, fun z => hv z.1 z.2⟩)), fun g => absurd rfl g⟩
  · unfold wX12_both
    refine m_findPlaces (wh := 2) (by omega) rfl M (C 2 (by omega)) (fun sp wz nz pz wo wl co si de lo F => ?_)
    have C' : FPc n0 w0 n1 w1 (nI 2) sp wz nz pz wo co si de := fun wh' h' e => by
      rw [q_eq (by omega) (by omega)] at e
      subst e
      exact F
    have fin := fun v hv => h1 v hv (nI 2) sp wz nz pz wo wl co si de lo C'
    rcases F with ⟨e, hb⟩ | ⟨e, wn, xs, n, nd, p, ew, en, ep, hp, WW, WE, hW, n1', d0, hE, f, hf⟩
    · rw [e] at fin ⊢
      exact ⟨fun g => absurd g (by decide), fun _ => fin _ (.inl ⟨hb, rfl⟩)⟩
    · have nb : ¬ Big (PS (syM 2 n0 w0 n1 w1)) := fun hb => by have := Enum_Big hf hb; omega
      rw [e, en] at fin ⊢
      exact ⟨fun _ => m_shOf (wh := 2) (by omega) rfl hok M hW (fun v hv => fin v (.inr ⟨nb, fun z => hv z.1 z.2⟩)), fun g => absurd rfl g⟩
