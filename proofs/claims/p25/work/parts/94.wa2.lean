section
variable {n0 m0 t0 n1 m1 t1 : Nat} {w0 w1 : Nat → Nat} {st mk tk pu go cl : Nat → Int32} {y : Sy}
theorem m_L87 {r : Nat} (hr : r < 2) (hy : y = syM r n0 w0 n1 w1) (hok : SyOk y) (nb : ¬ Big (PS y)) (M : MdOk n0 m0 t0 w0 n1 m1 t1 w1 st mk tk pu go cl) {wn : Nat} {xs : Nat → Nat} {wo : Nat → Int32} (WW : WM y r wn xs wo) (WE : Enum (WS y) xs wn) {sc ss sl : Nat → Int32} {E : Int32 → Int32 → Int32 → Int32 → (Nat → Int32) → (Nat → Int32) → (Nat → Int32) → (Nat → Int32) → Prop}
    {P : Int32 → Int32 → Int32 → Int32 → (Nat → Int32) → (Nat → Int32) → (Nat → Int32) → (Nat → Int32) → Prop}
    (hP : ∀ i3 i4 li nx lc ls nc ns, ((i4 < (0 : Int32) → E i3 i4 li nx lc ls nc ns) ∧ (¬ i4 < (0 : Int32) → (∀ J : Int32 → Prop, (∀ s, (wX12_widen (nI r) s (nI wn) li st mk pu go cl wo lc ls (fun u28 u29 u30 => (wX12_judge (nI r) u28 tk u29 (fun r31 => (∀ x32 : Int32, x32 = (i3 ||| r31) → (wX12_putAside u28 nx u29 u30 nc ns (fun u33 u34 u35 => (wX12_judgeDeeper (nI r) (nI wn) u28 u33 st mk tk pu go cl wo u29 u30 u34 (fun r36 u37 u38 u39 => (∀ x40 : Int32, x40 = (x32 ||| r36) → (∀ E135 : Int32 → Int32 → (Nat → Int32) → (Nat → Int32) → Prop, (∀ i5 li2 lc2 ls2, (∀ x41 : Int32, x41 = i4 + (-1 : Int32) → P x40 x41 li2 u33 lc2 ls2 u34 u35) → E135 i5 li2 lc2 ls2) → wX12_watch_L135 (nI r) mk pu cl sc ss sl i4 u33 u35 E135 (0 : Int32) (0 : Int32) u38 u39))))))))))) → J s) → ((i4 = (0 : Int32) → J (1 : Int32)) ∧ (¬ i4 = (0 : Int32) → J (0 : Int32)))))) → P i3 i4 li nx lc ls nc ns) :
    ∀ S : List (Nat × Nat × Nat), S.length ≤ 24 → SK r S sc ss sl → StkOk y S → ∀ (T : Nat) (A : Nat × Nat → Prop) n f lc ls nx nc ns, LL y r n f lc ls → (∀ p, inL n f p ↔ A p) → (∀ p, A p → NS y p.1 p.2 (isD S)) → (∀ v u li nx lc ls nc ns, JV (sel r t0 t1) (LVc y A S) v → E (nI (T ||| v)) u li nx lc ls nc ns) → P (nI T) (nI S.length) (nI n) nx lc ls nc ns := by
  intro S
  induction S with
  | nil =>
    intro _ HS hS T A n f lc ls nx nc ns L hA hN hE
    refine hP _ _ _ _ _ _ _ _ ⟨fun g => absurd g (by decide), fun _ => ?_⟩
    intro J hJ
    refine ⟨fun _ => hJ _ ?_, fun g => absurd rfl g⟩
    have hCN : ∀ p, CLs y 1 A p → NS y p.1 p.2 false := fun p hp => CLs_NS (fun _ => rfl) hN hp
    refine m_widen (g := 1) (C := CLs y 1 A) (by omega) hy hok nb M WW WE (.inr rfl) (fun c x s hp hs P h1 h2 h3 => h2 c x s (hp P h1 h2 h3) hs) (fun _ c x l hp h4 h6 P h1 h2 h3 => h3 rfl c x l (hp P h1 h2 h3) h4 h6) (fun p hp => ⟨_, hCN p hp⟩) (f := f) ⟨L, fun p hp P h1 _ _ => h1 p ((hA p).1 hp)⟩ (fun n2 f2 co2 si2 L2 le2 sc2 => ?_)
    have e2 : ∀ p, inL n2 f2 p ↔ CLs y 1 A p := fun p => ⟨L2.2 p, fun hp => hp (inL n2 f2) (fun p hp => LE_in le2 ((hA p).2 hp)) (fun c x s hp hs => (sc2 _ hp).1 s hs) (fun e c x l hp h4 h6 => (sc2 _ hp).2 rfl l h4 h6)⟩
    refine m_judge hr hy hok M L2.1 (fun v1 hv1 => ?_)
    intro x32 e32
    rw [q_or] at e32
    refine m_putAside L2.1.1 (fun nc' ns' hcp => ?_)
    have N : LL y r n2 f2 nc' ns' := ⟨L2.1.1, fun i hi => by rw [(hcp i hi).1, (hcp i hi).2]; exact L2.1.2.1 i hi, L2.1.2.2⟩
    refine m_judgeDeeper hr hy hok nb M WW WE N (fun v2 n3 f3 co3 si3 L3 hv2 => ?_)
    intro x40 e40
    rw [e32, q_or, Nat.or_assoc] at e40
    intro E135 hE135
    refine m_L135 hr hy hok nb M (S := []) (by simp) HS hS N (fun _ u n co si => hE135 _ _ _ _ (fun x41 e41 => ?_)) (fun e R h => by simp at h)
    rw [e40, e41]
    refine hP _ _ _ _ _ _ _ _ ⟨fun _ => hE _ _ _ _ _ _ _ _ ?_, fun g => absurd (by decide) g⟩
    refine JV_congr (JV_or hv1 hv2) (fun c => ?_)
    simp only [e2, DPs_congr e2]
    exact Iff.rfl
  | cons e R ihS =>
    intro hl HS hS T A n f lc ls nx nc ns L hA hN hE
    have hl1 : R.length < 24 := by rw [List.length_cons] at hl; omega
    refine hP _ _ _ _ _ _ _ _ ⟨fun g => absurd g (nI_pos (by rw [List.length_cons]; omega)), fun _ => ?_⟩
    intro J hJ
    refine ⟨fun g => ?_, fun g => hJ _ ?_⟩
    · rw [show (0 : Int32) = nI 0 from rfl, q_eq (by rw [List.length_cons]; omega) (by omega), List.length_cons] at g
      omega
    have hCN : ∀ p, CLs y 0 A p → NS y p.1 p.2 (isD (e :: R)) := fun p hp => CLs_NS (fun g => by omega) hN hp
    refine m_widen (g := 0) (C := CLs y 0 A) (by omega) hy hok nb M WW WE (.inl rfl) (fun c x s hp hs P h1 h2 h3 => h2 c x s (hp P h1 h2 h3) hs) (fun g => by omega) (fun p hp => ⟨_, hCN p hp⟩) (f := f) ⟨L, fun p hp P h1 _ _ => h1 p ((hA p).1 hp)⟩ (fun n2 f2 co2 si2 L2 le2 sc2 => ?_)
    have e2 : ∀ p, inL n2 f2 p ↔ CLs y 0 A p := fun p => ⟨L2.2 p, fun hp => hp (inL n2 f2) (fun p hp => LE_in le2 ((hA p).2 hp)) (fun c x s hp hs => (sc2 _ hp).1 s hs) (fun e => by omega)⟩
    refine m_judge hr hy hok M L2.1 (fun v1 hv1 => ?_)
    intro x32 e32
    rw [q_or] at e32
    refine m_putAside L2.1.1 (fun nc' ns' hcp => ?_)
    have N : LL y r n2 f2 nc' ns' := ⟨L2.1.1, fun i hi => by rw [(hcp i hi).1, (hcp i hi).2]; exact L2.1.2.1 i hi, L2.1.2.2⟩
    refine m_judgeDeeper hr hy hok nb M WW WE N (fun v2 n3 f3 co3 si3 L3 hv2 => ?_)
    intro x40 e40
    rw [e32, q_or, Nat.or_assoc] at e40
    intro E135 hE135
    refine m_L135 hr hy hok nb M hl HS hS N (fun h => by simp at h) (fun e' R' eR u n4 f4 co4 si4 L4 h4 => hE135 _ _ _ _ (fun x41 e41 => ?_))
    injection eR with eR1 eR2
    subst eR1; subst eR2
    rw [List.length_cons, show (-1 : Int32) = -nI 1 from rfl, q_addn (by omega), Nat.add_sub_cancel] at e41
    rw [e40, e41]
    have nx : ∀ p, NXs y (inL n2 f2) e p ↔ NXs y (CLs y 0 A) e p := fun p => by unfold NXs; simp only [e2]
    refine ihS (by omega) (SK_tail HS) hS.2.2 _ (NXs y (CLs y 0 A) e) n4 f4 co4 si4 _ _ _ L4 (fun p => (h4 p).trans (nx p)) (fun p hp => ?_) (fun v u li nx lc ls nc ns hv => ?_)
    · obtain ⟨q, l, hq, h4', h6', ep⟩ := hp
      rw [ep]
      obtain ⟨c0, x0, a⟩ := e
      exact NS_stp hS.2.1 (.inr (.inr ⟨a, l, _, hS.1, h4', h6', NS_WS hok (hCN q hq), rfl⟩))
    · rw [Nat.or_assoc]
      refine hE _ _ _ _ _ _ _ _ (JV_congr (JV_or (JV_or hv1 hv2) hv) (fun c => ?_))
      simp only [e2, DPs_congr e2]
      exact Iff.rfl
theorem m_watch (M : MdOk n0 m0 t0 w0 n1 m1 t1 w1 st mk tk pu go cl) {z : Nat} {lt : Nat → Nat} (hz : z ≤ 24) (h6 : ∀ i, lt i < 6) {ro : Nat → Int32} (hro : ∀ i, i < z → ro i = nI (lt i)) {x p a b c kn sp wz nz pz li nx : Int32} {sc ss sl wo wl co si de lo lc ls nc ns : Nat → Int32} (C : FPc n0 w0 n1 w1 kn sp wz nz pz wo co si de)
    {K : Int32 → Int32 → Int32 → Int32 → Int32 → Int32 → Int32 → Int32 → Int32 → Int32 → Int32 → (Nat → Int32) → (Nat → Int32) → (Nat → Int32) → (Nat → Int32) → (Nat → Int32) → (Nat → Int32) → (Nat → Int32) → (Nat → Int32) → (Nat → Int32) → (Nat → Int32) → (Nat → Int32) → (Nat → Int32) → (Nat → Int32) → Prop}
    (h1 : ∀ r k v, r < 2 → x = nI r → k ≤ z → p = nI k → watV (syM r n0 w0 n1 w1) (sel r t0 t1) lt k v → ∀ a b c kn sp wz nz pz li nx sc ss sl wo wl co si de lo lc ls nc ns, FPc n0 w0 n1 w1 kn sp wz nz pz wo co si de → K v a b c kn sp wz nz pz li nx sc ss sl wo wl co si de lo lc ls nc ns)
    (h3 : ∀ r, r < 2 → x = nI r → (∀ k, k ≤ z → p ≠ nI k) → K (-nI 3) a b c kn sp wz nz pz li nx sc ss sl wo wl co si de lo lc ls nc ns)
    (h2 : (∀ r, r < 2 → x ≠ nI r) → K (-nI 2) a b c kn sp wz nz pz li nx sc ss sl wo wl co si de lo lc ls nc ns) :
    wX12_watch x p (nI z) a b c kn sp wz nz pz li nx st mk tk pu go cl ro sc ss sl wo wl co si de lo lc ls nc ns K := by
  unfold wX12_watch
  refine q_isR (fun r hr e => ⟨fun g => absurd g (by decide), fun _ => ?_⟩) (fun g => ⟨fun _ => h2 g, fun g => absurd rfl g⟩)
  refine q_behind hz (fun k hk ek => ⟨fun g => absurd g (by decide), fun _ => ?_⟩) (fun g => ⟨fun _ => h3 r hr e g, fun g => absurd rfl g⟩)
  subst e; subst ek
  have hok := syM_ok (wh := r) (by omega) M
  refine m_findPlaces (by omega) rfl M (C r (by omega)) (fun sp wz nz pz wo wl co si de lo F => ?_)
  have C' : FPc n0 w0 n1 w1 (nI r) sp wz nz pz wo co si de := fun wh' h' e => by
    rw [q_eq (by omega) (by omega)] at e
    subst e
    exact F
  have fin := fun v hv a b c li nx sc ss sl lc ls nc ns => h1 r k v hr rfl hk rfl hv a b c (nI r) sp wz nz pz li nx sc ss sl wo wl co si de lo lc ls nc ns C'
  rcases F with ⟨e, hb⟩ | ⟨e, wn, xs, n, nd, p, ew, en, ep, hp, WW, WE, hW, _, _, hE, f, hf⟩
  · rw [e] at fin ⊢
    exact ⟨fun g => absurd g (by decide), fun _ => fin _ (.inl ⟨hb, rfl⟩) _ _ _ _ _ _ _ _ _ _ _ _⟩
  · have nb : ¬ Big (PS (syM r n0 w0 n1 w1)) := fun hb => by have := Enum_Big hf hb; omega
    rw [e, ew] at fin ⊢
    refine ⟨fun _ => ?_, fun g => absurd rfl g⟩
    refine m_goRow (by omega) rfl M h6 (by omega) (fun i hi => hro i (by omega)) (fun sc' ss' sl' HS => ?_)
    have ro := rsy_ok hok h6 k
    have c8 : (rsy (syM r n0 w0 n1 w1) lt k).1 < 8 := S2_1 (NS_S2 hok ro.1) (syM_2 hr)
    refine m_takeR hr M c8 ?_
    intro J hJ
    have key : ∀ T, T = (if tkB (sel r t0 t1) (rsy (syM r n0 w0 n1 w1) lt k).1 then 4 else 0) → J (nI T) := fun T eT => by
      refine hJ _ ?_
      have pp : PS (syM r n0 w0 n1 w1) ((rsy (syM r n0 w0 n1 w1) lt k).1, (rsy (syM r n0 w0 n1 w1) lt k).2.1) := ⟨_, ro.1⟩
      refine m_list (n := 0) (f := fun _ => (0, 0)) (by omega) rfl hok nb (LL_0 _ r _ _ _) pp (fun n' f' co' si' L' l1 l2 l3 => ?_)
      unfold wX12_watch_L87
      intro P hP
      refine m_L87 hr rfl hok nb M WW WE hP (rsy (syM r n0 w0 n1 w1) lt k).2.2 (by omega) HS ro.2.1 T (fun p => p = ((rsy (syM r n0 w0 n1 w1) lt k).1, (rsy (syM r n0 w0 n1 w1) lt k).2.1)) n' f' co' si' _ _ _ L' (fun p => ?_) (fun p hp => ?_) (fun v u li nx lc ls nc ns hv => ?_)
      · rw [l3 p]
        exact ⟨fun h => h.elim (fun ⟨i, hi, _⟩ => by omega) id, fun h => .inr h⟩
      · rw [hp]; exact ro.1
      · exact fin _ (.inr ⟨nb, v, hv, by rw [eT]⟩) _ _ _ _ _ _ _ _ _ _ _ _
    cases ht : tkB (sel r t0 t1) (rsy (syM r n0 w0 n1 w1) lt k).1 <;> rw [ht] at key
    · exact ⟨fun _ => key 0 rfl, fun g => absurd rfl g⟩
    · exact ⟨fun g => absurd g (by decide), fun _ => key 4 rfl⟩
end
