theorem pig : ∀ (n : Nat) (f : Nat → Nat), (∀ i, i < n + 1 → f i < n) → ∃ i j, i < j ∧ j < n + 1 ∧ f i = f j
  | 0, f, h => absurd (h 0 (by omega)) (by omega)
  | n + 1, f, h => by
    by_cases hx : ∃ i, i < n + 1 ∧ f i = f (n + 1)
    · obtain ⟨i, hi, e⟩ := hx
      exact ⟨i, n + 1, hi, by omega, e⟩
    · have hv := h (n + 1) (by omega)
      have no : ∀ i, i < n + 1 → f i ≠ f (n + 1) := fun i hi e => hx ⟨i, hi, e⟩
      obtain ⟨i, j, hij, hj, e⟩ := pig n (fun i => if f i = n then f (n + 1) else f i) (fun i hi => by
        have h1 := h i (by omega)
        have h2 := no i hi
        split
        · omega
        · omega)
      have h1 := no i (by omega)
      have h2 := no j (by omega)
      refine ⟨i, j, hij, by omega, ?_⟩
      split at e <;> split at e <;> omega
def Enum {α : Type} (S : α → Prop) (f : Nat → α) (n : Nat) : Prop := (∀ i, i < n → S (f i)) ∧ (∀ i j, i < n → j < n → f i = f j → i = j) ∧ ∀ x, S x → ∃ i, i < n ∧ f i = x
def Big {α : Type} (S : α → Prop) : Prop := ∃ f : Nat → α, (∀ i, i < 61 → S (f i)) ∧ ∀ i j, i < 61 → j < 61 → f i = f j → i = j
theorem inj_le {α : Type} {S : α → Prop} {f g : Nat → α} {n m : Nat} (h1 : ∀ i, i < n → S (f i)) (h2 : ∀ i j, i < n → j < n → f i = f j → i = j) (h3 : ∀ x, S x → ∃ i, i < m ∧ g i = x) : n ≤ m := by
  rcases Nat.lt_or_ge m n with h | h
  · exfalso
    have hc : ∀ i, ∃ j, i < n → (j < m ∧ g j = f i) := fun i => by
      by_cases hi : i < n
      · obtain ⟨j, hj⟩ := h3 _ (h1 i hi); exact ⟨j, fun _ => hj⟩
      · exact ⟨0, fun h => absurd h hi⟩
    obtain ⟨k, hk⟩ := Classical.axiomOfChoice hc
    obtain ⟨i, j, hij, hj, e⟩ := pig m k (fun i hi => (hk i (by omega)).1)
    have a := (hk i (by omega)).2
    have b := (hk j (by omega)).2
    rw [e] at a
    have := h2 i j (by omega) (by omega) (by rw [← a, ← b])
    omega
  · exact h
theorem Enum_eq {α : Type} {S : α → Prop} {f g : Nat → α} {n m : Nat} (hf : Enum S f n) (hg : Enum S g m) : n = m :=
  Nat.le_antisymm (inj_le hf.1 hf.2.1 hg.2.2) (inj_le hg.1 hg.2.1 hf.2.2)
theorem Enum_Big {α : Type} {S : α → Prop} {f : Nat → α} {n : Nat} (hf : Enum S f n) (hb : Big S) : 61 ≤ n := by
  obtain ⟨g, h1, h2⟩ := hb
  exact inj_le h1 h2 hf.2.2
/-- two readers held together, each as its number of states and its relations; of one alone the other has no state -/
abbrev Sy := (Nat × (Nat → Nat)) × (Nat × (Nat → Nat))
def sE (y : Sy) : Nat := idn y.1.1 + 512 * idn y.2.1
def sP (y : Sy) (l : Nat) : Nat := y.1.2 (3 * l + 1) + 512 * y.2.2 (3 * l + 1)
def sB (y : Sy) (a e x : Nat) : Nat := wrp y.1.2 a e x + 512 * wrp y.2.2 a e (x / 512)
def sA (y : Sy) (l c : Nat) : Nat := img c (aln y.1.2 l) + 8 * img (c / 8) (aln y.2.2 l)
def s0 (y : Sy) : Nat := 1 + 8 * (if y.2.1 = 0 then 0 else 1)
def SyOk (y : Sy) : Prop := 1 ≤ y.1.1 ∧ y.1.1 ≤ 3 ∧ y.2.1 ≤ 3 ∧ (∀ j, Rn y.1.1 (y.1.2 j)) ∧ (∀ j, Rn y.2.1 (y.2.2 j))
def R2 (y : Sy) (x : Nat) : Prop := x < 262144 ∧ thn (sE y) x = x ∧ thn x (sE y) = x
def S2 (y : Sy) (c : Nat) : Prop := c < 64 ∧ imc c (sE y) = c
theorem cmb_mod {a b : Nat} (ha : a < 512) : (a + 512 * b) % 512 = a := by omega
theorem cmb_div {a b : Nat} (ha : a < 512) : (a + 512 * b) / 512 = b := by omega
theorem thn3_cl {a b y : Nat} (ha : a < 512) : thn3 (a + 512 * b) y = thn3 a y := by rw [← thn3_modl, cmb_mod ha]
theorem thn3_cr {a b x : Nat} (ha : a < 512) : thn3 x (a + 512 * b) = thn3 x a := by rw [← thn3_modr, cmb_mod ha]
theorem thn_cmb {a b a' b' : Nat} (ha : a < 512) (ha' : a' < 512) : thn (a + 512 * b) (a' + 512 * b') = thn3 a a' + 512 * thn3 b b' := by
  unfold thn
  rw [cmb_div ha, cmb_div ha', thn3_cl ha, thn3_cr ha']
theorem R2_cmb {y : Sy} {a b : Nat} (ha : Rn y.1.1 a) (hb : Rn y.2.1 b) : R2 y (a + 512 * b) := by
  have h1 := ha.1; have h2 := hb.1
  have i1 := idn_lt y.1.1
  refine ⟨by omega, ?_, ?_⟩
  · unfold sE; rw [thn_cmb i1 h1, ha.2.1, hb.2.1]
  · unfold sE; rw [thn_cmb h1 i1, ha.2.2, hb.2.2]
theorem R2_E {y : Sy} : R2 y (sE y) := R2_cmb (Rn_id _) (Rn_id _)
theorem R2_P {y : Sy} (h : SyOk y) (l : Nat) : R2 y (sP y l) := R2_cmb (h.2.2.2.1 _) (h.2.2.2.2 _)
theorem R2_B {y : Sy} (h : SyOk y) (a e x : Nat) : R2 y (sB y a e x) := R2_cmb (Rn_wrp h.2.2.2.1 a e x) (Rn_wrp h.2.2.2.2 a e (x / 512))
theorem R2_thn {y : Sy} {x z : Nat} (hx : R2 y x) (hz : R2 y z) : R2 y (thn x z) :=
  ⟨thn_lt _ _, by rw [← thn_assoc, hx.2.1], by rw [thn_assoc, hz.2.2]⟩
theorem img_cl {c a b : Nat} (ha : a < 512) : img c (a + 512 * b) = img c a := by rw [← img_mody, cmb_mod ha]
theorem S2_cmb {y : Sy} {c d : Nat} (hc : Sn y.1.1 c) (hd : Sn y.2.1 d) : S2 y (c + 8 * d) := by
  have h1 := hc.1; have h2 := hd.1
  refine ⟨by omega, ?_⟩
  unfold imc sE
  rw [cmb_div (idn_lt _), img_cl (idn_lt _), ← img_mod, show (c + 8 * d) % 8 = c from by omega, show (c + 8 * d) / 8 = d from by omega, hc.2, hd.2]
theorem S2_A {y : Sy} (h : SyOk y) (l c : Nat) : S2 y (sA y l c) := S2_cmb (Sn_img (Rn_aln h.2.2.2.1 l)) (Sn_img (Rn_aln h.2.2.2.2 l))
theorem S2_0 {y : Sy} (h : SyOk y) : S2 y (s0 y) := by
  refine S2_cmb (Sn_1 h.1 h.2.1) ?_
  split
  · exact Sn_0 _
  · exact Sn_1 (by omega) h.2.2.1
theorem S2_imc {y : Sy} {c x : Nat} (hx : R2 y x) : S2 y (imc c x) := ⟨imc_lt _ _, by rw [imc_thn, hx.2.2]⟩
/-- what a step is: a plain letter, or an open letter, a whole row, and what closes it -/
def stpS (y : Sy) (W : Nat → Prop) (s : Nat) : Prop := s = sP y 2 ∨ s = sP y 3 ∨ ∃ a e o, a < 2 ∧ 4 ≤ e ∧ e < 6 ∧ W o ∧ s = sB y a e o
/-- the relations of whole rows -/
def WS (y : Sy) (x : Nat) : Prop := ∀ P : Nat → Prop, P (sE y) → (∀ u s, P u → stpS y P s → P (thn u s)) → P x
theorem stpS_mono {y : Sy} {P Q : Nat → Prop} (h : ∀ x, P x → Q x) {s : Nat} (hs : stpS y P s) : stpS y Q s := by
  rcases hs with e | e | ⟨a, e, o, h1, h2, h3, h4, h5⟩
  · exact .inl e
  · exact .inr (.inl e)
  · exact .inr (.inr ⟨a, e, o, h1, h2, h3, h _ h4, h5⟩)
theorem WS_E (y : Sy) : WS y (sE y) := fun _ h _ => h
theorem WS_stp {y : Sy} {u s : Nat} (hu : WS y u) (hs : stpS y (WS y) s) : WS y (thn u s) := fun P h0 h1 => h1 u s (hu P h0 h1) (stpS_mono (fun _ hx => hx P h0 h1) hs)
theorem WS_ind {y : Sy} {Q : Nat → Prop} (h0 : Q (sE y)) (h1 : ∀ u s, WS y u → Q u → stpS y (WS y) s → stpS y Q s → Q (thn u s)) {x : Nat} (hx : WS y x) : Q x :=
  (hx (fun x => WS y x ∧ Q x) ⟨WS_E y, h0⟩ (fun u s hu hs => ⟨WS_stp hu.1 (stpS_mono (fun _ h => h.1) hs), h1 u s hu.1 hu.2 (stpS_mono (fun _ h => h.1) hs) (stpS_mono (fun _ h => h.2) hs)⟩)).2
theorem stp_R2 {y : Sy} (h : SyOk y) {W : Nat → Prop} {s : Nat} (hs : stpS y W s) : R2 y s := by
  rcases hs with e | e | ⟨a, e, o, h1, h2, h3, h4, h5⟩
  · rw [e]; exact R2_P h _
  · rw [e]; exact R2_P h _
  · rw [h5]; exact R2_B h _ _ _
theorem WS_R2 {y : Sy} (h : SyOk y) {x : Nat} (hx : WS y x) : R2 y x := WS_ind (Q := R2 y) R2_E (fun u s _ hu hs _ => R2_thn hu (stp_R2 h hs)) hx
theorem stp_WS {y : Sy} (h : SyOk y) {s : Nat} (hs : stpS y (WS y) s) : WS y s := by
  have := WS_stp (WS_E y) hs
  rwa [(stp_R2 h hs).2.1] at this
/-- what a row comes to: COME, SINCE, and whether a letter stands open -/
def NS (y : Sy) (c x : Nat) (d : Bool) : Prop := ∀ P : Nat → Nat → Bool → Prop, P (s0 y) (sE y) false → (∀ c x d s, P c x d → stpS y (WS y) s → P (imc c s) (thn x s) d) →
  (∀ c x d l, l < 2 → P c x d → P (sA y l c) (sE y) true) → (∀ c x l, 4 ≤ l → l < 6 → P c x false → P (sA y l c) (sE y) false) → P c x d
theorem NS_0 (y : Sy) : NS y (s0 y) (sE y) false := fun _ h _ _ _ => h
theorem NS_stp {y : Sy} {c x : Nat} {d : Bool} {s : Nat} (h : NS y c x d) (hs : stpS y (WS y) s) : NS y (imc c s) (thn x s) d := fun P h0 h1 h2 h3 => h1 c x d s (h P h0 h1 h2 h3) hs
theorem NS_open {y : Sy} {c x : Nat} {d : Bool} {l : Nat} (h : NS y c x d) (hl : l < 2) : NS y (sA y l c) (sE y) true := fun P h0 h1 h2 h3 => h2 c x d l hl (h P h0 h1 h2 h3)
theorem NS_close {y : Sy} {c x : Nat} {l : Nat} (h : NS y c x false) (hl : 4 ≤ l) (hl6 : l < 6) : NS y (sA y l c) (sE y) false := fun P h0 h1 h2 h3 => h3 c x l hl hl6 (h P h0 h1 h2 h3)
theorem NS_ind {y : Sy} {Q : Nat → Nat → Bool → Prop} (h0 : Q (s0 y) (sE y) false) (h1 : ∀ c x d s, NS y c x d → Q c x d → stpS y (WS y) s → Q (imc c s) (thn x s) d)
    (h2 : ∀ c x d l, l < 2 → NS y c x d → Q c x d → Q (sA y l c) (sE y) true) (h3 : ∀ c x l, 4 ≤ l → l < 6 → NS y c x false → Q c x false → Q (sA y l c) (sE y) false) {c x : Nat} {d : Bool} (h : NS y c x d) : Q c x d :=
  (h (fun c x d => NS y c x d ∧ Q c x d) ⟨NS_0 y, h0⟩ (fun c x d s hp hs => ⟨NS_stp hp.1 hs, h1 c x d s hp.1 hp.2 hs⟩) (fun c x d l hl hp => ⟨NS_open hp.1 hl, h2 c x d l hl hp.1 hp.2⟩) (fun c x l hl hl6 hp => ⟨NS_close hp.1 hl hl6, h3 c x l hl hl6 hp.1 hp.2⟩)).2
/-- where SINCE begins -/
def BG (y : Sy) (b : Nat) (d : Bool) : Prop := (b = s0 y ∧ d = false) ∨ (∃ c x d' l, l < 2 ∧ NS y c x d' ∧ b = sA y l c ∧ d = true) ∨ (∃ c x l, 4 ≤ l ∧ l < 6 ∧ NS y c x false ∧ b = sA y l c ∧ d = false)
theorem BG_S2 {y : Sy} (h : SyOk y) {b : Nat} {d : Bool} (hb : BG y b d) : S2 y b := by
  rcases hb with ⟨e, _⟩ | ⟨c, x, d', l, _, _, e, _⟩ | ⟨c, x, l, _, _, _, e, _⟩
  · rw [e]; exact S2_0 h
  · rw [e]; exact S2_A h _ _
  · rw [e]; exact S2_A h _ _
theorem BG_NS {y : Sy} {b : Nat} {d : Bool} (hb : BG y b d) : NS y b (sE y) d := by
  rcases hb with ⟨e, e'⟩ | ⟨c, x, d', l, hl, hn, e, e'⟩ | ⟨c, x, l, h4, h6, hn, e, e'⟩
  · rw [e, e']; exact NS_0 y
  · rw [e, e']; exact NS_open hn hl
  · rw [e, e']; exact NS_close hn h4 h6
theorem NS_char {y : Sy} (h : SyOk y) {c x : Nat} {d : Bool} : NS y c x d ↔ ∃ b, BG y b d ∧ WS y x ∧ c = imc b x := by
  constructor
  · intro hn
    refine NS_ind (Q := fun c x d => ∃ b, BG y b d ∧ WS y x ∧ c = imc b x) ?_ ?_ ?_ ?_ hn
    · exact ⟨s0 y, .inl ⟨rfl, rfl⟩, WS_E y, (S2_0 h).2.symm⟩
    · rintro c x d s hn ⟨b, hb, hx, e⟩ hs
      exact ⟨b, hb, WS_stp hx hs, by rw [e, imc_thn]⟩
    · rintro c x d l hl hn ⟨b, hb, hx, e⟩
      exact ⟨sA y l c, .inr (.inl ⟨c, x, d, l, hl, hn, rfl, rfl⟩), WS_E y, (S2_A h _ _).2.symm⟩
    · rintro c x l h4 h6 hn ⟨b, hb, hx, e⟩
      exact ⟨sA y l c, .inr (.inr ⟨c, x, l, h4, h6, hn, rfl, rfl⟩), WS_E y, (S2_A h _ _).2.symm⟩
  · rintro ⟨b, hb, hx, e⟩
    have : ∀ x, WS y x → NS y (imc b x) x d := fun x hx => WS_ind (Q := fun x => NS y (imc b x) x d) (by rw [(BG_S2 h hb).2]; exact BG_NS hb) (fun u s _ hu hs _ => by rw [← imc_thn]; exact NS_stp hu hs) hx
    rw [e]; exact this x hx
theorem NS_WS {y : Sy} (h : SyOk y) {c x : Nat} {d : Bool} (hn : NS y c x d) : WS y x := by
  obtain ⟨b, _, hx, _⟩ := (NS_char h).1 hn; exact hx
theorem NS_S2 {y : Sy} (h : SyOk y) {c x : Nat} {d : Bool} (hn : NS y c x d) : S2 y c := by
  obtain ⟨b, _, hx, e⟩ := (NS_char h).1 hn
  rw [e]; exact S2_imc (WS_R2 h hx)
