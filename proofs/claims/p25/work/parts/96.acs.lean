section
variable {y : Sy} {sz : Nat} {pr : Nat → Nat}
theorem RWs_X {X : Nat → Prop} {x : Nat} (h : X x) : RWs y X x := fun _ h1 _ => h1 x h
theorem RWs_s {X : Nat → Prop} {x s : Nat} (h : RWs y X x) (hs : stpS y (WS y) s) : RWs y X (thn x s) := fun P h1 h2 => h2 x s (h P h1 h2) hs
theorem RWs_WS {X : Nat → Prop} (hX : ∀ x, X x → WS y x) {x : Nat} (h : RWs y X x) : WS y x := h (WS y) hX (fun _ _ hu hs => WS_stp hu hs)
/-- the places of one level are those of its wholes -/
theorem CLs0 {A : Nat × Nat → Prop} {b : Nat} {X : Nat → Prop} (hA : ∀ p, A p ↔ ∃ x, X x ∧ p = (imc b x, x)) (p : Nat × Nat) : CLs y 0 A p ↔ ∃ x, RWs y X x ∧ p = (imc b x, x) := by
  constructor
  · intro h
    refine h (fun p => ∃ x, RWs y X x ∧ p = (imc b x, x)) (fun p hp => ?_) (fun c x s ⟨z, hz, e⟩ hs => ?_) (fun e => by omega)
    · obtain ⟨x, hx, e⟩ := (hA p).1 hp
      exact ⟨x, RWs_X hx, e⟩
    · injection e with e1 e2
      exact ⟨thn x s, by rw [e2]; exact RWs_s hz hs, by rw [e1, e2, imc_thn]⟩
  · rintro ⟨x, hx, e⟩
    rw [e]
    intro P h1 h2 _
    exact hx (fun x => P (imc b x, x)) (fun x hx => h1 _ ((hA _).2 ⟨x, hx, rfl⟩)) (fun u s hu hs => by rw [← imc_thn]; exact h2 _ _ s hu hs)
theorem CLs1 (hok : SyOk y) (hE : Enum (WS y) pr sz) {A : Nat × Nat → Prop} {b : Nat} {X : Nat → Prop} (hA : ∀ p, A p ↔ ∃ x, X x ∧ p = (imc b x, x)) (c : Nat) : (∃ x, CLs y 1 A (c, x)) ↔ RC y sz pr 4 (fun q => ∃ x, RWs y X x ∧ q = imc b x) c := by
  constructor
  · rintro ⟨x, h⟩
    have key := h (fun p => (∃ x, RWs y X x ∧ p = (imc b x, x)) ∨ ∃ d l x, RC y sz pr 4 (fun q => ∃ x, RWs y X x ∧ q = imc b x) d ∧ (l = 4 ∨ l = 5) ∧ WS y x ∧ p = (imc (sA y l d) x, x)) (fun p hp => ?_) (fun c x s hp hs => ?_) (fun _ c x l hp h4 h6 => ?_)
    · rcases key with ⟨z, hz, e⟩ | ⟨d, l, z, hd, hl, hz, e⟩
      · injection e with e1 e2
        rw [e1]; exact RC_0 ⟨z, hz, rfl⟩
      · injection e with e1 e2
        obtain ⟨i, hi, ei⟩ := hE.2.2 z hz
        rw [e1, ← ei]; exact RC_s hd hl hi
    · obtain ⟨x, hx, e⟩ := (hA p).1 hp
      exact .inl ⟨x, RWs_X hx, e⟩
    · rcases hp with ⟨z, hz, e⟩ | ⟨d, l, z, hd, hl, hz, e⟩
      · injection e with e1 e2
        exact .inl ⟨thn x s, by rw [e2]; exact RWs_s hz hs, by rw [e1, e2, imc_thn]⟩
      · injection e with e1 e2
        exact .inr ⟨d, l, thn x s, hd, hl, by rw [e2]; exact WS_stp hz hs, by rw [e1, e2, imc_thn]⟩
    · have hc : RC y sz pr 4 (fun q => ∃ x, RWs y X x ∧ q = imc b x) c := by
        rcases hp with ⟨z, hz, e⟩ | ⟨d, l, z, hd, hl, hz, e⟩
        · injection e with e1 e2
          rw [e1]; exact RC_0 ⟨z, hz, rfl⟩
        · injection e with e1 e2
          obtain ⟨i, hi, ei⟩ := hE.2.2 z hz
          rw [e1, ← ei]; exact RC_s hd hl hi
      exact .inr ⟨c, l, sE y, hc, by omega, WS_E y, by rw [(S2_A hok l c).2]⟩
  · intro h
    refine h (fun c => ∃ x, CLs y 1 A (c, x)) (fun q ⟨x, hx, e⟩ => ⟨x, ?_⟩) (fun c l i ⟨x, hx⟩ hl hi => ⟨pr i, ?_⟩)
    · rw [e]
      intro P h1 h2 _
      exact hx (fun x => P (imc b x, x)) (fun x hx => h1 _ ((hA _).2 ⟨x, hx, rfl⟩)) (fun u s hu hs => by rw [← imc_thn]; exact h2 _ _ s hu hs)
    · intro P h1 h2 h3
      have h0 := h3 rfl c x l (hx P h1 h2 h3) (by omega) (by omega)
      have := WS_ind (Q := fun x => P (imc (sA y l c) x, x)) (by rw [(S2_A hok l c).2]; exact h0) (fun u s _ hu hs _ => by rw [← imc_thn]; exact h2 _ _ s hu hs) (hE.1 i hi)
      exact this
theorem DPs_RC (hok : SyOk y) (hE : Enum (WS y) pr sz) {A : Nat × Nat → Prop} (hA : ∀ p, A p → S2 y p.1) (c : Nat) : ((∃ x, A (c, x)) ∨ ∃ x, DPs y A (c, x)) ↔ RC y sz pr 0 (fun q => ∃ x, A (q, x)) c := by
  constructor
  · rintro (h | ⟨x, h⟩)
    · exact RC_0 h
    · have key := h (fun p => ∃ d l x, RC y sz pr 0 (fun q => ∃ x, A (q, x)) d ∧ (l = 0 ∨ l = 1) ∧ WS y x ∧ p = (imc (sA y l d) x, x)) (fun p l hp hl => ⟨p.1, l, sE y, RC_0 ⟨p.2, hp⟩, by omega, WS_E y, by rw [(S2_A hok l p.1).2]⟩) (fun c x s ⟨d, l, z, hd, hl, hz, e⟩ hs => ?_) (fun c x l ⟨d, l', z, hd, hl', hz, e⟩ hl => ?_)
      · obtain ⟨d, l, z, hd, hl, hz, e⟩ := key
        injection e with e1 e2
        obtain ⟨i, hi, ei⟩ := hE.2.2 z hz
        rw [e1, ← ei]; exact RC_s hd hl hi
      · injection e with e1 e2
        exact ⟨d, l, thn x s, hd, hl, by rw [e2]; exact WS_stp hz hs, by rw [e1, e2, imc_thn]⟩
      · injection e with e1 e2
        obtain ⟨i, hi, ei⟩ := hE.2.2 z hz
        refine ⟨c, l, sE y, by rw [e1, ← ei]; exact RC_s hd hl' hi, by omega, WS_E y, by rw [(S2_A hok l c).2]⟩
  · intro h
    refine h (fun c => (∃ x, A (c, x)) ∨ ∃ x, DPs y A (c, x)) (fun q hq => .inl hq) (fun c l i hc hl hi => .inr ⟨pr i, ?_⟩)
    intro P h1 h2 h3
    have h0 : P (sA y l c, sE y) := by
      rcases hc with ⟨x, hx⟩ | ⟨x, hx⟩
      · exact h1 (c, x) l hx (by omega)
      · exact h3 c x l (hx P h1 h2 h3) (by omega)
    exact WS_ind (Q := fun x => P (imc (sA y l c) x, x)) (by rw [(S2_A hok l c).2]; exact h0) (fun u s _ hu hs _ => by rw [← imc_thn]; exact h2 _ _ s hu hs) (hE.1 i hi)
theorem RC_congr {l : Nat} {A B : Nat → Prop} (h : ∀ q, A q ↔ B q) (c : Nat) : RC y sz pr l A c ↔ RC y sz pr l B c := by
  unfold RC; simp only [h]
theorem RC_or {l : Nat} {A B : Nat → Prop} (c : Nat) : RC y sz pr l (fun q => A q ∨ B q) c ↔ RC y sz pr l A c ∨ RC y sz pr l B c := by
  constructor
  · intro h
    refine h (fun c => RC y sz pr l A c ∨ RC y sz pr l B c) (fun q hq => hq.elim (fun h => .inl (RC_0 h)) (fun h => .inr (RC_0 h))) (fun c l' i hc hl hi => hc.elim (fun h => .inl (RC_s h hl hi)) (fun h => .inr (RC_s h hl hi)))
  · rintro (h | h) P h1 h2
    · exact h P (fun q hq => h1 q (.inl hq)) h2
    · exact h P (fun q hq => h1 q (.inr hq)) h2
/-- the codes that the class finds, level by level -/
def ACs (y : Sy) (sz : Nat) (pr : Nat → Nat) : Nat → (Nat → Prop) → List (Nat × Nat × Nat) → Nat → Prop
  | b, X, [], q => RC y sz pr 4 (fun q => ∃ x, RWs y X x ∧ q = imc b x) q
  | b, X, e :: r, q => (∃ x, RWs y X x ∧ q = imc b x) ∨ ACs y sz pr e.1 (fun z => ∃ x l, RWs y X x ∧ 4 ≤ l ∧ l < 6 ∧ z = thn e.2.1 (sB y e.2.2 l x)) r q
def unb (S : List (Nat × Nat × Nat)) : List (Nat × Nat × Nat) := S.map (fun e => (imc e.1 e.2.1, e.2.1, e.2.2))
theorem ACs_congr : ∀ (S : List (Nat × Nat × Nat)) (b : Nat) (X Z : Nat → Prop), (∀ x, X x ↔ Z x) → ∀ q, ACs y sz pr b X S q ↔ ACs y sz pr b Z S q := by
  intro S b X Z h q
  have : X = Z := funext (fun x => propext (h x))
  rw [this]
theorem LVc_ACs (hok : SyOk y) (hE : Enum (WS y) pr sz) : ∀ (S : List (Nat × Nat × Nat)) (A : Nat × Nat → Prop) (b : Nat) (X : Nat → Prop), (∀ e, e ∈ S → e.2.2 < 2 ∧ WS y e.2.1) → (∀ x, X x → WS y x) → (∀ p, A p ↔ ∃ x, X x ∧ p = (imc b x, x)) → ∀ c, LVc y A (unb S) c ↔ RC y sz pr 0 (ACs y sz pr b X S) c
  | [], A, b, X, hS, hX, hA, c => by
    have s2 : ∀ p, CLs y 1 A p → S2 y p.1 := fun p hp => hp (fun p => S2 y p.1) (fun p hp => by obtain ⟨x, hx, e⟩ := (hA p).1 hp; rw [e]; exact S2_imc (WS_R2 hok (hX x hx))) (fun c x s _ hs => S2_imc (stp_R2 hok hs)) (fun _ c x l _ _ _ => S2_A hok l c)
    show ((∃ x, CLs y 1 A (c, x)) ∨ ∃ x, DPs y (CLs y 1 A) (c, x)) ↔ _
    rw [DPs_RC hok hE s2]
    exact RC_congr (fun q => CLs1 hok hE hA q) c
  | e :: r, A, b, X, hS, hX, hA, c => by
    have s2 : ∀ p, CLs y 0 A p → S2 y p.1 := fun p hp => hp (fun p => S2 y p.1) (fun p hp => by obtain ⟨x, hx, e⟩ := (hA p).1 hp; rw [e]; exact S2_imc (WS_R2 hok (hX x hx))) (fun c x s _ hs => S2_imc (stp_R2 hok hs)) (fun _ c x l _ _ _ => S2_A hok l c)
    show (((∃ x, CLs y 0 A (c, x)) ∨ ∃ x, DPs y (CLs y 0 A) (c, x)) ∨ LVc y (NXs y (CLs y 0 A) (imc e.1 e.2.1, e.2.1, e.2.2)) (unb r) c) ↔ RC y sz pr 0 (fun q => (∃ x, RWs y X x ∧ q = imc b x) ∨ ACs y sz pr e.1 (fun z => ∃ x l, RWs y X x ∧ 4 ≤ l ∧ l < 6 ∧ z = thn e.2.1 (sB y e.2.2 l x)) r q) c
    rw [RC_or, DPs_RC hok hE s2]
    have c0 := CLs0 (y := y) hA
    have ha := hS e List.mem_cons_self
    -- what an inner whole makes of the outer one is a whole, if the outer one is
    have ih := LVc_ACs hok hE r (NXs y (CLs y 0 A) (imc e.1 e.2.1, e.2.1, e.2.2)) e.1 (fun z => ∃ x l, RWs y X x ∧ 4 ≤ l ∧ l < 6 ∧ z = thn e.2.1 (sB y e.2.2 l x))
    have hw := ha.2
    have ih := ih (fun e' he' => hS e' (List.mem_cons_of_mem _ he')) (fun z ⟨x, l, hx, h4, h6, ez⟩ => by rw [ez]; exact WS_stp hw (.inr (.inr ⟨_, l, x, ha.1, h4, h6, RWs_WS hX hx, rfl⟩))) (fun p => by
      constructor
      · rintro ⟨q, l, hq, h4, h6, ep⟩
        obtain ⟨x, hx, eq⟩ := (c0 q).1 hq
        refine ⟨_, ⟨x, l, hx, h4, h6, rfl⟩, ?_⟩
        rw [ep, eq, imc_thn]
      · rintro ⟨z, ⟨x, l, hx, h4, h6, ez⟩, ep⟩
        refine ⟨(imc b x, x), l, (c0 _).2 ⟨x, hx, rfl⟩, h4, h6, ?_⟩
        rw [ep, ez, imc_thn]) c
    rw [ih]
    refine or_congr_left (RC_congr (fun q => ?_) c)
    constructor
    · rintro ⟨x, hx⟩
      obtain ⟨z, hz, ez⟩ := (c0 _).1 hx
      injection ez with e1 e2
      exact ⟨z, hz, e1⟩
    · rintro ⟨x, hx, eq⟩
      exact ⟨x, (c0 _).2 ⟨x, hx, by rw [eq]⟩⟩
end
