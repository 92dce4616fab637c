section
variable {y : Sy} {sz : Nat} {pr : Nat → Nat}
theorem RC_ground (hy : SyOk y) (hE : Enum (WS y) pr sz) {A : Nat → Prop} (hA : ∀ q, A q ↔ ∃ i, i < sz ∧ q = imc (s0 y) (pr i)) {q : Nat} : RC y sz pr 4 A q ↔ ∃ x, NS y q x false := by
  constructor
  · intro h
    refine h (fun q => ∃ x, NS y q x false) (fun q hq => ?_) (fun c l' i ⟨x, hx⟩ hl hi => ?_)
    · obtain ⟨i, hi, e⟩ := (hA q).1 hq
      exact ⟨pr i, (NS_char hy).2 ⟨s0 y, .inl ⟨rfl, rfl⟩, hE.1 i hi, e⟩⟩
    · exact ⟨pr i, (NS_char hy).2 ⟨sA y l' c, .inr (.inr ⟨c, x, l', by omega, by omega, hx, rfl, rfl⟩), hE.1 i hi, rfl⟩⟩
  · rintro ⟨x, hx⟩
    have fin : ∀ c x, (∃ b, (b = s0 y ∨ ∃ c' l', RC y sz pr 4 A c' ∧ (l' = 4 ∨ l' = 5) ∧ b = sA y l' c') ∧ WS y x ∧ c = imc b x) → RC y sz pr 4 A c := by
      rintro c x ⟨b, hb, hw, e⟩
      obtain ⟨i, hi, ei⟩ := hE.2.2 x hw
      rcases hb with hb | ⟨c', l', h1, h2, h3⟩
      · exact RC_0 ((hA c).2 ⟨i, hi, by rw [e, hb, ei]⟩)
      · rw [e, h3, ← ei]; exact RC_s h1 (by omega) hi
    have := NS_ind (Q := fun c x d => d = false → ∃ b, (b = s0 y ∨ ∃ c' l', RC y sz pr 4 A c' ∧ (l' = 4 ∨ l' = 5) ∧ b = sA y l' c') ∧ WS y x ∧ c = imc b x)
      (fun _ => ⟨s0 y, .inl rfl, WS_E y, (S2_0 hy).2.symm⟩)
      (fun c x d s _ hq hs hd => by
        obtain ⟨b, h1, h2, h3⟩ := hq hd
        exact ⟨b, h1, WS_stp h2 hs, by rw [h3, imc_thn]⟩)
      (fun c x d l _ _ _ hd => absurd hd (by decide))
      (fun c x l h4 h6 _ hq _ => ⟨sA y l c, .inr ⟨c, l, fin c x (hq rfl), by omega, rfl⟩, WS_E y, (S2_A hy _ _).2.symm⟩) hx rfl
    exact fin q x this
theorem RC_codes (hy : SyOk y) (hE : Enum (WS y) pr sz) {A : Nat → Prop} (hA : ∀ q, A q ↔ ∃ x, NS y q x false) {q : Nat} : RC y sz pr 0 A q ↔ ∃ x d, NS y q x d := by
  constructor
  · intro h
    refine h (fun q => ∃ x d, NS y q x d) (fun q hq => ?_) (fun c l' i ⟨x, d, hx⟩ hl hi => ?_)
    · obtain ⟨x, hx⟩ := (hA q).1 hq
      exact ⟨x, false, hx⟩
    · exact ⟨pr i, true, (NS_char hy).2 ⟨sA y l' c, .inr (.inl ⟨c, x, d, l', by omega, hx, rfl, rfl⟩), hE.1 i hi, rfl⟩⟩
  · rintro ⟨x, d, hx⟩
    have fin : ∀ c x, (∃ b, (BG y b false ∨ ∃ c' l', RC y sz pr 0 A c' ∧ (l' = 0 ∨ l' = 1) ∧ b = sA y l' c') ∧ WS y x ∧ c = imc b x) → RC y sz pr 0 A c := by
      rintro c x ⟨b, hb, hw, e⟩
      obtain ⟨i, hi, ei⟩ := hE.2.2 x hw
      rcases hb with hb | ⟨c', l', h1, h2, h3⟩
      · exact RC_0 ((hA c).2 ⟨x, (NS_char hy).2 ⟨b, hb, hw, e⟩⟩)
      · rw [e, h3, ← ei]; exact RC_s h1 (by omega) hi
    have := NS_ind (Q := fun c x _ => ∃ b, (BG y b false ∨ ∃ c' l', RC y sz pr 0 A c' ∧ (l' = 0 ∨ l' = 1) ∧ b = sA y l' c') ∧ WS y x ∧ c = imc b x)
      ⟨s0 y, .inl (.inl ⟨rfl, rfl⟩), WS_E y, (S2_0 hy).2.symm⟩
      (fun c x d s _ hq hs => by
        obtain ⟨b, h1, h2, h3⟩ := hq
        exact ⟨b, h1, WS_stp h2 hs, by rw [h3, imc_thn]⟩)
      (fun c x d l hl _ hq => ⟨sA y l c, .inr ⟨c, l, fin c x hq, by omega, rfl⟩, WS_E y, (S2_A hy _ _).2.symm⟩)
      (fun c x l h4 h6 hn _ => ⟨sA y l c, .inl (.inr (.inr ⟨c, x, l, h4, h6, hn, rfl, rfl⟩)), WS_E y, (S2_A hy _ _).2.symm⟩) hx
    exact fin q x this
end
section
variable {y : Sy} {bo n1 m1 t1 n2 m2 t2 : Nat} {w1 w2 : Nat → Nat} {nc sz : Nat} {pr : Nat → Nat} {pa : Nat → Int32}
theorem q_reb (hH : HeldOk y bo n1 m1 t1 n2 m2 t2 w1 w2) (hn : ncOk y nc) (hz : sz ≤ 60) (h1 : 1 ≤ sz) (hpa : ∀ i, i < sz → pa i = nI (pr i)) (hE : Enum (WS y) pr sz) {im : Nat → Int32} {sp : Nat → Int64} {K : Int32 → Int64 → Int64 → (Nat → Int32) → (Nat → Int64) → Prop}
    (h : ∀ n fn cn im' sp', (∃ f, Enum (PS y) f n) → n ≤ 3840 → FI nc sz pr fn im' sp' → cn < 18446744073709551616 → (∀ q, cn.testBit q = true ↔ ∃ x d, NS y q x d) → (∀ q, cn.testBit q = true → fn.testBit q = true) → K (nI n) (lN fn) (lN cn) im' sp') :
    wX1_beginning (nI bo) (fun r17 => ∀ x18 : Int64, x18 = ((1 : Int64) <<< ((r17).toInt64 &&& (63 : Int64))) → wX4_spread x18 (0 : Int64) (nI sz) pa im sp nc (fun r19 u20 u21 u22 => wX4_reached r19 (4 : Int32) u20 (fun j => nI (w1 j)) (fun j => nI (w2 j)) (nI sz) pa u21 u22 nc (fun r23 u24 u25 u26 => wX4_reached r23 (0 : Int32) u24 (fun j => nI (w1 j)) (fun j => nI (w2 j)) (nI sz) pa u25 u26 nc (fun r27 u28 u29 u30 => wX4_alone r23 (4 : Int32) (fun j => nI (w1 j)) (fun j => nI (w2 j)) nc (fun r31 => wX4_alone r27 (0 : Int32) (fun j => nI (w1 j)) (fun j => nI (w2 j)) nc (fun r32 => wX4_sizeFrom ((x18 ||| r31) ||| r32) (nI sz) u29 nc (fun r33 => K r33 u28 r27 u29 u30))))))) := by
  have hy := HeldOk_Sy hH
  have hR : ∀ i, i < sz → R2 y (pr i) := fun i hi => WS_R2 hy (hE.1 i hi)
  have h0 := S2_0 hy
  have h064 := h0.1
  refine q_beginH hH ?_
  rw [q_oneL h064]
  simp only [forall_eq]
  have sS : ∀ c, (2 ^ s0 y).testBit c = true → S2 y c := fun c hc => by rw [tb_p2.1 hc]; exact h0
  refine q_spread (fl := 0) hn hz hpa hR ⟨by omega, fun c _ hc => by rw [tb_0] at hc; exact hc.elim⟩ (p2_lt64 h064) sS (fun b fl1 im1 sp1 b1 b2 b3 b4 => ?_)
  have bA : ∀ q, b.testBit q = true ↔ ∃ i, i < sz ∧ q = imc (s0 y) (pr i) := fun q => by
    rw [b2]
    exact ⟨fun ⟨c, i, h2, h3, h4⟩ => ⟨i, h3, by rw [h4, tb_p2.1 h2]⟩, fun ⟨i, h3, h4⟩ => ⟨s0 y, i, tb_p2.2 rfl, h3, h4⟩⟩
  have bS : ∀ c, b.testBit c = true → S2 y c := fun c hc => by
    obtain ⟨i, hi, e⟩ := (bA c).1 hc
    rw [e]; exact S2_imc (hR i hi)
  refine q_reachedP (l := 4) hH hn hz hpa hR b3 (.inr rfl) b1 bS ⟨imc (s0 y) (pr 0), (bA _).2 ⟨0, by omega, rfl⟩⟩ (fun q hq => b4 q (.inr (.inr hq))) (fun g fl2 im2 sp2 g1 g2 g3 g4 g5 => ?_)
  have gG : ∀ q, g.testBit q = true ↔ ∃ x, NS y q x false := fun q => by rw [g2]; exact RC_ground hy hE bA
  have gS : ∀ c, g.testBit c = true → S2 y c := fun c hc => by
    obtain ⟨x, hx⟩ := (gG c).1 hc; exact NS_S2 hy hx
  refine q_reachedP (l := 0) hH hn hz hpa hR g3 (.inl rfl) g1 gS ⟨s0 y, (gG _).2 ⟨_, NS_0 y⟩⟩ (fun q hq => g4 q (.inr hq)) (fun c fl3 im3 sp3 c1 c2 c3 c4 c5 => ?_)
  have cC : ∀ q, c.testBit q = true ↔ ∃ x d, NS y q x d := fun q => by rw [c2]; exact RC_codes hy hE gG
  have cS : ∀ q, c.testBit q = true → S2 y q := fun q hq => by
    obtain ⟨x, d, hx⟩ := (cC q).1 hq; exact NS_S2 hy hx
  refine q_aloneS (l := 4) hH hn (.inr rfl) g1 gS (fun u u1 u2 => q_aloneS (l := 0) hH hn (.inl rfl) c1 cS (fun v v1 v2 => ?_))
  rw [lN_or, lN_or]
  have hbg : ∀ b', ((2 ^ s0 y ||| u) ||| v).testBit b' = true ↔ ∃ d, BG y b' d := fun b' => by
    rw [tb_or, tb_or, tb_p2, u2, v2]
    constructor
    · rintro ((e | ⟨c', h2, h3⟩) | ⟨c', h2, h3⟩)
      · exact ⟨false, .inl ⟨e, rfl⟩⟩
      · obtain ⟨x, hx⟩ := (gG c').1 h2
        rcases h3 with e | e
        · exact ⟨false, .inr (.inr ⟨c', x, 4, by omega, by omega, hx, e, rfl⟩)⟩
        · exact ⟨false, .inr (.inr ⟨c', x, 5, by omega, by omega, hx, e, rfl⟩)⟩
      · obtain ⟨x, d, hx⟩ := (cC c').1 h2
        rcases h3 with e | e
        · exact ⟨true, .inr (.inl ⟨c', x, d, 0, by omega, hx, e, rfl⟩)⟩
        · exact ⟨true, .inr (.inl ⟨c', x, d, 1, by omega, hx, e, rfl⟩)⟩
    · rintro ⟨d, ⟨e, _⟩ | ⟨c', x, d', l, hl, hx, e, _⟩ | ⟨c', x, l, h4, h6, hx, e, _⟩⟩
      · exact .inl (.inl e)
      · refine .inr ⟨c', (cC c').2 ⟨x, d', hx⟩, ?_⟩
        have : l = 0 ∨ l = 1 := by omega
        rcases this with rfl | rfl
        · exact .inl e
        · exact .inr e
      · refine .inl (.inr ⟨c', (gG c').2 ⟨x, hx⟩, ?_⟩)
        have : l = 4 ∨ l = 5 := by omega
        rcases this with rfl | rfl
        · exact .inl e
        · exact .inr e
  refine q_sizeFrom hn hz c3 (or_lt64 (or_lt64 (p2_lt64 h064) u1) v1) (fun q hq => ?_) (h _ fl3 c im3 sp3 (Enum_places hy hn hE hbg) ?_ c3 c1 cC (fun q hq => c4 q (.inr hq)))
  · rcases tb_or.1 hq with hq | hq
    · rcases tb_or.1 hq with hq | hq
      · exact c4 q (.inl (g4 q (.inl (b4 q (.inr (.inl hq))))))
      · obtain ⟨c', h2, h3⟩ := (u2 q).1 hq
        rcases h3 with e | e
        · rw [e]; exact c4 _ (.inl (g5 c' h2).1)
        · rw [e]; exact c4 _ (.inl (g5 c' h2).2)
    · obtain ⟨c', h2, h3⟩ := (v2 q).1 hq
      rcases h3 with e | e
      · rw [e]; exact (c5 c' h2).1
      · rw [e]; exact (c5 c' h2).2
  · have := sumN_le (f := fun i => cdN (fun q => (sbF nc pr ((2 ^ s0 y ||| u) ||| v) i).testBit q) 64) (c := 64) (fun i => cdN_le _ 64) sz
    omega
end
