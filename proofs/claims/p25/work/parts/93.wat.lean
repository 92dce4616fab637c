def CLs (y : Sy) (g : Nat) (A : Nat × Nat → Prop) (p : Nat × Nat) : Prop := ∀ P : Nat × Nat → Prop, (∀ p, A p → P p) → (∀ c x s, P (c, x) → stpS y (WS y) s → P (imc c s, thn x s)) → (g = 1 → ∀ c x l, P (c, x) → 4 ≤ l → l < 6 → P (sA y l c, sE y)) → P p
def NXs (y : Sy) (A : Nat × Nat → Prop) (e : Nat × Nat × Nat) (p : Nat × Nat) : Prop := ∃ q l, A q ∧ 4 ≤ l ∧ l < 6 ∧ p = (imc e.1 (sB y e.2.2 l q.2), thn e.2.1 (sB y e.2.2 l q.2))
/-- the codes ahead -/
def LVc (y : Sy) : (Nat × Nat → Prop) → List (Nat × Nat × Nat) → Nat → Prop
  | A, [], c => (∃ x, CLs y 1 A (c, x)) ∨ ∃ x, DPs y (CLs y 1 A) (c, x)
  | A, e :: r, c => ((∃ x, CLs y 0 A (c, x)) ∨ ∃ x, DPs y (CLs y 0 A) (c, x)) ∨ LVc y (NXs y (CLs y 0 A) e) r c
def gnd (S : List (Nat × Nat × Nat)) : Nat := if S = [] then 1 else 0
theorem CLs_NS {y : Sy} {g : Nat} {A : Nat × Nat → Prop} {d : Bool} (hg : g = 1 → d = false) (hA : ∀ p, A p → NS y p.1 p.2 d) {p : Nat × Nat} (h : CLs y g A p) : NS y p.1 p.2 d := h (fun p => NS y p.1 p.2 d) hA (fun c x s hn hs => NS_stp hn hs) (fun e c x l hn h4 h6 => by rw [hg e] at hn ⊢; exact NS_close hn h4 h6)
theorem CLs_congr {y : Sy} {g : Nat} {A B : Nat × Nat → Prop} (h : ∀ p, A p ↔ B p) (p : Nat × Nat) : CLs y g A p ↔ CLs y g B p := by
  unfold CLs; simp only [h]
theorem DPs_congr {y : Sy} {A B : Nat × Nat → Prop} (h : ∀ p, A p ↔ B p) (p : Nat × Nat) : DPs y A p ↔ DPs y B p := by
  unfold DPs; simp only [h]
def watV (y : Sy) (t : Nat) (lt : Nat → Nat) (k : Nat) (v : Int32) : Prop :=
  (Big (PS y) ∧ v = -nI 6) ∨ (¬ Big (PS y) ∧ ∃ b, JV t (LVc y (fun p => p = ((rsy y lt k).1, (rsy y lt k).2.1)) (rsy y lt k).2.2) b ∧ v = nI ((if tkB t (rsy y lt k).1 then 4 else 0) ||| b))
theorem watV_det {y : Sy} {t : Nat} {lt : Nat → Nat} {k : Nat} {v v' : Int32} (h : watV y t lt k v) (h' : watV y t lt k v') : v = v' := by
  rcases h with ⟨b, e⟩ | ⟨b, c, hc, e⟩ <;> rcases h' with ⟨b', e'⟩ | ⟨b', c', hc', e'⟩
  · rw [e, e']
  · exact absurd b b'
  · exact absurd b' b
  · rw [e, e', JV_det hc hc']
section
variable {n0 m0 t0 n1 m1 t1 : Nat} {w0 w1 : Nat → Nat} {st mk tk pu go cl : Nat → Int32} {y : Sy}
theorem m_L135 {r : Nat} (hr : r < 2) (hy : y = syM r n0 w0 n1 w1) (hok : SyOk y) (nb : ¬ Big (PS y)) (M : MdOk n0 m0 t0 w0 n1 m1 t1 w1 st mk tk pu go cl) {S : List (Nat × Nat × Nat)} (hl : S.length ≤ 24) {sc ss sl : Nat → Int32} (H : SK r S sc ss sl) (hS : StkOk y S) {nn : Nat} {fn : Nat → Nat × Nat} {nc ns : Nat → Int32} (N : LL y r nn fn nc ns) {co si : Nat → Int32} {E : Int32 → Int32 → (Nat → Int32) → (Nat → Int32) → Prop}
    (h0 : S = [] → ∀ u n co si, E u n co si)
    (h : ∀ e R, S = e :: R → ∀ u n f co si, LL y r n f co si → (∀ p, inL n f p ↔ NXs y (inL nn fn) e p) → E u (nI n) co si) :
    wX12_watch_L135 (nI r) mk pu cl sc ss sl (nI S.length) (nI nn) ns E (nI 0) (nI 0) co si := by
  have nn60 := N.1
  unfold wX12_watch_L135
  intro P hP
  cases eS : S with
  | nil =>
    rw [eS] at hP
    refine hP _ _ _ _ ⟨fun _ => h0 eS _ _ _ _, fun _ => ⟨fun _ => h0 eS _ _ _ _, fun g => absurd (show nI ([] : List (Nat × Nat × Nat)).length ≤ (0 : Int32) by decide) g⟩⟩
  | cons e R =>
    rw [eS] at hP H hS hl
    have top := SK_top H
    have hl1 : R.length < 24 := by rw [List.length_cons] at hl; omega
    obtain ⟨c0, x0, a⟩ := e
    have ha : a < 2 := hS.1
    have hn0 : NS y c0 x0 (isD R) := hS.2.1
    have pb : PS y (c0, x0) := ⟨_, hn0⟩
    have sub : nI ((c0, x0, a) :: R).length - 1 = nI R.length := by rw [List.length_cons, show (1 : Int32) = nI 1 from rfl, q_subN (by omega), Nat.add_sub_cancel]
    let C : Nat × Nat → Prop := NXs y (inL nn fn) (c0, x0, a)
    have stp : ∀ j, j < nn → ∀ l, 4 ≤ l → l < 6 → stpS y (WS y) (sB y a l (fn j).2) := fun j hj l h4 h6 => by
      obtain ⟨d, hn⟩ := (N.2.1 j hj).2.2
      exact .inr (.inr ⟨a, l, _, ha, h4, h6, NS_WS hok hn, rfl⟩)
    have hCP : ∀ p, C p → PS y p := fun p ⟨q, l, ⟨j, hj, ej⟩, h4, h6, e⟩ => by
      rw [e, ← ej]; exact ⟨_, NS_stp hn0 (stp j hj l h4 h6)⟩
    have mI : ∀ {c z : Nat} {K : Int32 → Prop}, S2 y c → R2 y z → K (nI (ps r (imc c z))) → wX12_image (nI (ps r c)) (nI (ph r z)) K := fun hc hz h => by rw [hy] at hc hz; exact m_image (n0 := n0) (w0 := w0) (n1 := n1) (w1 := w1) (by omega) hc hz h
    have mF : ∀ {x z : Nat} {K : Int32 → Prop}, R2 y x → R2 y z → K (nI (ph r (thn x z))) → wX12_follow (nI (ph r x)) (nI (ph r z)) K := fun hx hz h => by rw [hy] at hx hz; exact m_follow (n0 := n0) (w0 := w0) (n1 := n1) (w1 := w1) (by omega) hx hz h
    have mB : ∀ {a e x : Nat} {K : Int32 → Prop}, a < 2 → 4 ≤ e → e < 6 → R2 y x → K (nI (ph r (sB y a e x))) → wX12_block (nI r) (nI a) (nI (ph r x)) (nI e) mk pu cl K := fun h1 h2 h3 h4 h => by rw [hy] at h h4; exact m_block (by omega) M h1 h2 h3 h4 h
    refine q_cnt0 (Q := fun k => ∀ n f co si, SL y r C n f co si → (∀ j l, j < k → 4 ≤ l → l < 6 → inL n f (imc c0 (sB y a l (fn j).2), thn x0 (sB y a l (fn j).2))) → P (nI k) (nI n) co si) nn ?_ ?_ 0 (fun _ => (0, 0)) co si ⟨LL_0 y r _ co si, fun p ⟨i, hi, _⟩ => by omega⟩ (fun j l hj => by omega)
    · intro n f co si L hop
      refine hP _ _ _ _ ⟨fun _ => h (c0, x0, a) R eS _ n f co si L.1 (fun p => ⟨fun hp => L.2 p hp, fun ⟨q, l, ⟨j, hj, ej⟩, h4, h6, e⟩ => ?_⟩), fun g => absurd ((q_le (by omega) (by omega)).2 (Nat.le_refl nn)) g⟩
      rw [e, ← ej]; exact hop j l hj h4 h6
    · intro k hk ih n f co si L hop
      refine hP _ _ _ _ ⟨fun g => absurd ((q_le (by omega) (by omega)).1 g) (by omega), fun _ => ⟨fun g => ?_, fun _ => ?_⟩⟩
      · rw [List.length_cons] at g
        exact absurd ((q_le (b := 0) (by omega) (by omega)).1 g) (by omega)
      unfold wX12_watch_L152
      intro P2 hP2
      refine q_cnt0 (Q := fun i => ∀ n4 f4 co4 si4, SL y r C n4 f4 co4 si4 → LE n f n4 f4 → (∀ l, 4 ≤ l → l < i + 4 → inL n4 f4 (imc c0 (sB y a l (fn k).2), thn x0 (sB y a l (fn k).2))) → P2 (nI (i + 4)) (nI n4) co4 si4) 2 ?_ ?_ n f co si L (LE_r n f) (fun l h1 h2 => by omega)
      · intro n4 f4 co4 si4 L4 le4 ho4
        refine hP2 _ _ _ _ ⟨fun _ => ?_, fun g => absurd ((q_le (by omega) (by omega)).2 (Nat.le_refl 6)) g⟩
        intro z ez
        rw [ez, nI_1]
        refine ih n4 f4 co4 si4 L4 (fun j l hj h4 h6 => ?_)
        by_cases e : j = k
        · rw [e]; exact ho4 l h4 h6
        · exact LE_in le4 (hop j l (by omega) h4 h6)
      · intro i hi ih2 n4 f4 co4 si4 L4 le4 ho4
        refine hP2 _ _ _ _ ⟨fun g => absurd ((q_le (a := 6) (by omega) (by omega)).1 g) (by omega), fun _ => ?_⟩
        have Nk := N.2.1 k hk
        have bk := PS_b hok Nk.2.2
        have rB := R2_B hok a (i + 4) (fn k).2
        rw [sub, q_in (by omega), q_in (by omega), q_cl (by omega), q_cl (by omega), Nk.2.1, top.1, top.2.1, top.2.2]
        refine ⟨hl1, by omega, mB ha (by omega) (by omega) bk.2 ⟨hl1, mI (PS_b hok pb).1 rB ⟨hl1, mF (PS_b hok pb).2 rB ?_⟩⟩⟩
        have hn : C (imc c0 (sB y a (i + 4) (fn k).2), thn x0 (sB y a (i + 4) (fn k).2)) := ⟨fn k, i + 4, ⟨k, hk, rfl⟩, by omega, by omega, rfl⟩
        refine m_list (by omega) hy hok nb L4.1 (hCP _ hn) (fun n5 f5 co5 si5 L5 l1 l2 l3 => ?_)
        intro z ez
        rw [ez, nI_1]
        refine ih2 n5 f5 co5 si5 ⟨L5, fun p hp => ?_⟩ (LE_t le4 ⟨l1, l2⟩) (fun l h1 h2 => ?_)
        · rcases (l3 p).1 hp with h | h
          · exact L4.2 p h
          · rw [h]; exact hn
        · by_cases e : l = i + 4
          · rw [e]; exact (l3 _).2 (.inr rfl)
          · exact LE_in ⟨l1, l2⟩ (ho4 l h1 (by omega))
end
