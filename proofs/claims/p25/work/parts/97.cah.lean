theorem imc_one {c x : Nat} (hc : c < 8) (hx : x < 512) : imc c x = img c x := by
  show img c x + 8 * img (c / 8) (x / 512) = img c x
  rw [show c / 8 = 0 from by omega, show x / 512 = 0 from by omega, img_0]; rfl
theorem cm_bas {n m t : Nat} {w : Nat → Nat} (W : WfR n m t w) (lt : Nat → Nat) : ∀ k, cmA w n lt k = img (cmA w n lt (bas lt k)) (snA w n lt k)
  | 0 => by
    show 1 = img 1 (idn n)
    rcases (show n = 1 ∨ n = 2 ∨ n = 3 by have := W.1; have := W.2.1; omega) with e | e | e <;> subst e <;> decide
  | k + 1 => by
    have ih := cm_bas W lt k
    have ae : ∀ c l, img (img c (aln w l)) (idn n) = img c (aln w l) := fun c l => (Sn_img (Rn_aln W.2.2.2.2.2.1 l)).2
    rw [bas_succ]
    by_cases h2 : lt k < 2
    · rw [if_pos h2, (rsm_open h2).1, (rsm_open h2).2, ae]
    · rw [if_neg h2]
      by_cases h4 : lt k < 4
      · rw [if_pos h4, (rsm_plain (by omega) h4).1, (rsm_plain (by omega) h4).2, ← img_thn3, ← ih]
      · rw [if_neg h4]
        cases e : stk lt k with
        | nil => simp only; rw [(rsm_free (by omega) e).1, (rsm_free (by omega) e).2, ae]
        | cons o r =>
          simp only
          have so := stk_cons lt k o r e
          have ih2 := cm_bas W lt o
          rw [(rsm_close (by omega) e).1, (rsm_close (by omega) e).2, ← img_thn3, ← ih2]
  termination_by k => k
theorem NS_u {y : Sy} (hok : SyOk y) {c x u : Nat} {d : Bool} (h : NS y c x d) (hu : WS y u) : NS y (imc c u) (thn x u) d := by
  have hx := WS_R2 hok (NS_WS hok h)
  have hc := NS_S2 hok h
  exact WS_ind (Q := fun u => NS y (imc c u) (thn x u) d) (by rw [hc.2, hx.2.2]; exact h) (fun u s _ hu hs _ => by rw [← imc_thn, ← thn_assoc]; exact NS_stp hu hs) hu
theorem stk_frc (lt : Nat → Nat) : ∀ k, stk lt (frc lt k) = []
  | 0 => rfl
  | k + 1 => by
    unfold frc
    by_cases h : 4 ≤ lt k ∧ stk lt k = []
    · rw [if_pos h]
      unfold stk
      rw [if_neg (by omega), if_neg (by omega), h.2]; rfl
    · rw [if_neg h]; exact stk_frc lt k
/-- one reader, held alone -/
abbrev y1 (n : Nat) (w : Nat → Nat) : Sy := ((n, w), (0, fun _ => 0))
theorem y1_ok {n m t : Nat} {w : Nat → Nat} (W : WfR n m t w) : SyOk (y1 n w) := HeldOk_Sy (HeldOk_one W W)
def stS (w : Nat → Nat) (n : Nat) (lt : Nat → Nat) (k : Nat) : List (Nat × Nat × Nat) := (stk lt k).map (fun o => (cmA w n lt (bas lt o), snA w n lt o, lt o))
theorem unb_stS {n m t : Nat} {w : Nat → Nat} (W : WfR n m t w) (lt : Nat → Nat) (k : Nat) : unb (stS w n lt k) = (rsm w n lt k).2.2 := by
  rw [rsm_stk]
  unfold unb stS
  rw [List.map_map]
  apply List.map_congr_left
  intro o _
  show (imc (cmA w n lt (bas lt o)) (snA w n lt o), snA w n lt o, lt o) = (cmA w n lt o, snA w n lt o, lt o)
  rw [imc_one (cs_lt W lt _).1 (cs_lt W lt o).2, ← cm_bas W lt o]
theorem one_NS {n m t : Nat} {w : Nat → Nat} (W : WfR n m t w) {lt : Nat → Nat} (h6 : ∀ i, lt i < 6) (k : Nat) : NS (y1 n w) (cmA w n lt k) (snA w n lt k) (isD (rsm w n lt k).2.2) ∧ (stk lt k).length ≤ k := by
  have h := rsy_ok (y1_ok W) h6 k
  have e := (rsy_one W.1 W.2.2.2.2.2.1 (lt := lt) k).1
  have e : rsy (y1 n w) lt k = rsm w n lt k := e
  rw [e] at h
  have h3 := h.2.2
  rw [rsm_stk, List.length_map] at h3
  exact ⟨h.1, h3⟩
theorem RC4_NS {y : Sy} {sz : Nat} {pr : Nat → Nat} (hok : SyOk y) (hE : Enum (WS y) pr sz) {A : Nat → Prop} (hA : ∀ q, A q → ∃ x, NS y q x false) {q : Nat} (h : RC y sz pr 4 A q) : ∃ x, NS y q x false :=
  h (fun q => ∃ x, NS y q x false) hA (fun c l' i ⟨x, hx⟩ hl hi => ⟨_, NS_u hok (NS_close hx (by omega) (by omega)) (hE.1 i hi)⟩)
theorem stk_lt2 (lt : Nat → Nat) : ∀ k o, o ∈ stk lt k → lt o < 2
  | 0, o, h => by simp [stk] at h
  | k + 1, o, h => by
    unfold stk at h
    split at h
    · rename_i g
      rcases List.mem_cons.1 h with e | e
      · rw [e]; exact g
      · exact stk_lt2 lt k o e
    · split at h
      · exact stk_lt2 lt k o h
      · exact stk_lt2 lt k o (List.mem_of_mem_tail h)
theorem RC0_NS {y : Sy} {sz : Nat} {pr : Nat → Nat} (hok : SyOk y) (hE : Enum (WS y) pr sz) {A : Nat → Prop} (hA : ∀ q, A q → ∃ x d, NS y q x d) {q : Nat} (h : RC y sz pr 0 A q) : ∃ x d, NS y q x d :=
  h (fun q => ∃ x d, NS y q x d) hA (fun c l' i ⟨x, d, hx⟩ hl hi => ⟨_, _, NS_u hok (NS_open hx (by omega)) (hE.1 i hi)⟩)
theorem q_comeAt {k : Nat} (hk : k < 25) {co : Nat → Int32} {v : Int32} (e : co k = v) {K : Int32 → Prop} (h : K v) : wX9_comeAt (nI k) co K := by
  unfold wX9_comeAt
  rw [q_in (by omega), q_cl (by omega), e]
  exact ⟨fun g => absurd g (nI_pos (by omega)), fun _ => ⟨fun g => absurd ((q_le (a := 25) (by omega) (by omega)).1 g) (by omega), fun _ => ⟨by omega, h⟩⟩⟩
theorem q_sinceAt {k : Nat} (hk : k < 25) {si : Nat → Int32} {v : Int32} (e : si k = v) {K : Int32 → Prop} (h : K v) : wX9_sinceAt (nI k) si K := by
  unfold wX9_sinceAt
  rw [q_in (by omega), q_cl (by omega), e]
  exact ⟨fun g => absurd g (nI_pos (by omega)), fun _ => ⟨fun g => absurd ((q_le (a := 25) (by omega) (by omega)).1 g) (by omega), fun _ => ⟨by omega, h⟩⟩⟩
theorem q_codesAhead {n m t : Nat} {w : Nat → Nat} (W : WfR n m t w) {z : Nat} {lt : Nat → Nat} {ls bs : Nat → Int32} (R : RowC z lt ls bs) {k : Nat} (hk : k ≤ z) {co si : Nat → Int32} (H : WkC w n lt k co si) {sz st : Nat} {pr wo : Nat → Nat} {pa so wa nx ar pl sl : Nat → Int32} (G : WhOk (y1 n w) sz st pr wo pa so wa nx ar pl sl)
    {fn cn : Nat} {im : Nat → Int32} {sp : Nat → Int64} (F : FI 8 sz pr fn im sp) (hcn : ∀ q, cn.testBit q = true ↔ ∃ x d, NS (y1 n w) q x d) (hf : ∀ q, cn.testBit q = true → fn.testBit q = true) {K : Int64 → Int64 → (Nat → Int32) → (Nat → Int64) → Prop}
    (h : ∀ r fl' im' sp', r < 18446744073709551616 → (∀ q, r.testBit q = true ↔ RC (y1 n w) sz pr 0 (ACs (y1 n w) sz pr (cmA w n lt (bas lt k)) (fun x => x = snA w n lt k) (stS w n lt k)) q) → (∀ q, r.testBit q = true → ∃ x d, NS (y1 n w) q x d) → FI 8 sz pr fl' im' sp' → (∀ q, cn.testBit q = true → fl'.testBit q = true) → K (lN r) (lN fl') im' sp') :
    wX4_codesAhead (nI k) (lN fn) (fun j => nI (w j)) (fun j => nI (w j)) (nI sz) (nI st) pa nx ar sl im sp co si (nI z) ls bs 8 K := by
  have hok := y1_ok W
  have hz := R.1
  have h6 := R.2.1
  obtain ⟨hW, _⟩ := id G
  have z60 := hW.1
  have hE := WhOk_Enum G
  have hn : ncOk (y1 n w) 8 := show 8 = if 0 = 0 then 8 else 64 from rfl
  have hpa : ∀ i, i < sz → pa i = nI (pr i) := fun i hi => (hW.2.1 i hi).1
  have hR : ∀ i, i < sz → R2 (y1 n w) (pr i) := fun i hi => WS_R2 hok (hE.1 i hi)
  have cS : ∀ q, cn.testBit q = true → S2 (y1 n w) q := fun q hq => by obtain ⟨x, d, hx⟩ := (hcn q).1 hq; exact NS_S2 hok hx
  unfold wX4_codesAhead
  refine q_sinceAt (by omega) (H k (Nat.le_refl k)).2 ?_
  obtain ⟨i0, hi0, ei0⟩ := hE.2.2 _ (NS_WS hok (one_NS W h6 k).1)
  rw [← ei0]
  refine q_findW hok G hi0 ?_
  unfold wX4_bit
  rw [q_oneL (by omega)]
  refine ⟨fun g => absurd g (nI_pos (by omega)), fun _ => ?_⟩
  intro E hE2
  unfold wX4_codesAhead_L27
  intro P hP
  have key : ∀ L v, (stk lt v).length = L → v ≤ k → ∀ fo ins lv fl im sp, lv + L ≤ 24 → fo < 18446744073709551616 → ins < 18446744073709551616 → (∀ i, ins.testBit i = true → i < sz) → (∃ i, ins.testBit i = true) → FI 8 sz pr fl im sp → (∀ q, cn.testBit q = true → fl.testBit q = true) → (∀ q, fo.testBit q = true → cn.testBit q = true) →
      (∀ r a b c fl' im' sp', r < 18446744073709551616 → (∀ q, r.testBit q = true ↔ fo.testBit q = true ∨ ACs (y1 n w) sz pr (cmA w n lt (bas lt v)) (bW2 pr sz ins) (stS w n lt v) q) → (∀ q, r.testBit q = true → cn.testBit q = true) → (∃ q, r.testBit q = true) → FI 8 sz pr fl' im' sp' → (∀ q, cn.testBit q = true → fl'.testBit q = true) → E (lN r) a b c (lN fl') im' sp') → P (lN fo) (nI v) (lN ins) (nI lv) (lN fl) im sp := by
    intro L
    induction L with
    | zero =>
      intro v eL hv fo ins lv fl im sp hlv hfo hins his hne F hfl hfc hfin
      have e : stk lt v = [] := List.length_eq_zero_iff.1 eL
      refine hP _ _ _ _ _ _ _ ⟨fun g => absurd ((q_lt (a := 24) (by omega) (by omega)).1 g) (by omega), fun _ => ?_⟩
      refine q_reachedW G hins his hne (fun r1 hr1 er1 => ?_)
      refine q_baseAt R (by omega) ?_
      have hbl := bas_le lt v
      have hb := one_NS W h6 (bas lt v)
      have hb0 : NS (y1 n w) (cmA w n lt (bas lt v)) (snA w n lt (bas lt v)) false := by
        have g := hb.1
        rw [rsm_stk, show stk lt (bas lt v) = [] from ?_] at g
        · exact g
        · unfold bas; rw [e]; exact stk_frc lt v
      refine q_comeAt (by omega) (H (bas lt v) (by omega)).1 ?_
      refine q_codesFrom G hok hn F (hfl _ ((hcn _).2 ⟨_, _, hb.1⟩)) (cs_lt W lt _).1 hr1 (fun r2 hr2 er2 => ?_)
      refine q_openAt R (by omega) ?_
      unfold opnI
      rw [e]
      refine ⟨fun _ => ?_, fun g => absurd rfl g⟩
      have c2 : ∀ q, r2.testBit q = true → ∃ x, NS (y1 n w) q x false := fun q hq => by
        obtain ⟨i, hi, _, eq⟩ := (er2 q).1 hq
        rw [eq]; exact ⟨_, NS_u hok hb0 (hE.1 i hi)⟩
      obtain ⟨i1, hi1⟩ := hne
      have i1r : r1.testBit i1 = true := (er1 i1).2 ⟨his i1 hi1, RWs_X ⟨i1, his i1 hi1, hi1, rfl⟩⟩
      have ne2 : ∃ q, r2.testBit q = true := ⟨_, (er2 _).2 ⟨i1, his i1 hi1, i1r, rfl⟩⟩
      refine q_reachedP (HeldOk_one W W) hn z60 hpa hR F (l := 4) (.inr rfl) hr2 (fun q hq => by obtain ⟨x, hx⟩ := c2 q hq; exact NS_S2 hok hx) ne2 (fun q hq => hfl q ((hcn q).2 (by obtain ⟨x, hx⟩ := c2 q hq; exact ⟨x, _, hx⟩))) (fun r3 fl' im' sp' a1 a2 a3 a4 _ => ?_)
      intro x25 e25
      rw [lN_or] at e25
      subst e25
      have c3 : ∀ q, r3.testBit q = true → cn.testBit q = true := fun q hq => by
        obtain ⟨x, hx⟩ := RC4_NS hok hE c2 ((a2 q).1 hq)
        exact (hcn q).2 ⟨x, _, hx⟩
      refine hfin _ _ _ _ _ _ _ (or_lt64 hfo a1) (fun q => ?_) (fun q hq => (tb_or.1 hq).elim (hfc q) (c3 q)) ?_ a3 (fun q hq => a4 q (.inl (hfl q hq)))
      · rw [tb_or, a2]
        refine or_congr_right ?_
        unfold stS
        rw [e]
        show _ ↔ RC (y1 n w) sz pr 4 (fun q => ∃ x, RWs (y1 n w) (bW2 pr sz ins) x ∧ q = imc (cmA w n lt (bas lt v)) x) q
        refine RC_congr (fun q => ?_) q
        rw [er2]
        constructor
        · rintro ⟨i, hi, h1, h2⟩
          exact ⟨_, ((er1 i).1 h1).2, h2⟩
        · rintro ⟨x, hx, eq⟩
          obtain ⟨i, hi, ei⟩ := hE.2.2 x (RWs_WS (fun x ⟨i, hi, _, e⟩ => by rw [← e]; exact hE.1 i hi) hx)
          exact ⟨i, hi, (er1 i).2 ⟨hi, by rw [ei]; exact hx⟩, by rw [ei]; exact eq⟩
      · obtain ⟨q, hq⟩ := ne2
        exact ⟨q, tb_or.2 (.inr ((a2 q).2 (RC_0 hq)))⟩
    | succ L ih =>
      intro v eL hv fo ins lv fl im sp hlv hfo hins his hne F hfl hfc hfin
      cases e : stk lt v with
      | nil => rw [e] at eL; simp at eL
      | cons o r =>
      obtain ⟨er, hov, lo2⟩ := stk_cons lt v o r e
      refine hP _ _ _ _ _ _ _ ⟨fun g => absurd ((q_lt (a := 24) (by omega) (by omega)).1 g) (by omega), fun _ => ?_⟩
      refine q_reachedW G hins his hne (fun r1 hr1 er1 => ?_)
      refine q_baseAt R (by omega) ?_
      have hbl := bas_le lt v
      have hb := one_NS W h6 (bas lt v)
      refine q_comeAt (by omega) (H (bas lt v) (by omega)).1 ?_
      refine q_codesFrom G hok hn F (hfl _ ((hcn _).2 ⟨_, _, hb.1⟩)) (cs_lt W lt _).1 hr1 (fun r2 hr2 er2 => ?_)
      refine q_openAt R (by omega) ?_
      unfold opnI
      rw [e]
      dsimp only
      refine ⟨fun g => absurd g (fun g => (q_neg (a := o) (by omega)).1 g), fun _ => ?_⟩
      intro x15 e15
      rw [lN_or] at e15
      subst e15
      refine q_letterAt R (by omega) ?_
      refine q_sinceAt (by omega) (H o (by omega)).2 ?_
      obtain ⟨j0, hj0, ej0⟩ := hE.2.2 _ (NS_WS hok (one_NS W h6 o).1)
      rw [← ej0]
      refine q_findW hok G hj0 ?_
      refine q_closedAround G lo2 hj0 hr1 (fun r3 hr3 er3 => ?_)
      intro x20 e20
      rw [e20, nI_1]
      have c2 : ∀ q, r2.testBit q = true → cn.testBit q = true := fun q hq => by
        obtain ⟨i, hi, _, eq⟩ := (er2 q).1 hq
        rw [hcn, eq]; exact ⟨_, _, NS_u hok hb.1 (hE.1 i hi)⟩
      obtain ⟨i1, hi1⟩ := hne
      have i1r : r1.testBit i1 = true := (er1 i1).2 ⟨his i1 hi1, RWs_X ⟨i1, his i1 hi1, hi1, rfl⟩⟩
      have ne3 : ∃ i, r3.testBit i = true := by
        obtain ⟨q, hq, eq⟩ := hE.2.2 _ (WS_stp (hE.1 j0 hj0) (.inr (.inr ⟨lt o, 4, _, lo2, by omega, by omega, hE.1 i1 (his i1 hi1), rfl⟩)))
        exact ⟨q, (er3 q).2 ⟨hq, i1, 4, his i1 hi1, i1r, by omega, by omega, eq⟩⟩
      refine ih o (by rw [e, List.length_cons, er] at eL; omega) (by omega) _ _ _ _ _ _ (by omega) (or_lt64 hfo hr2) hr3 (fun i hi => ((er3 i).1 hi).1) ne3 F hfl (fun q hq => (tb_or.1 hq).elim (hfc q) (c2 q)) (fun rr a b c fl' im' sp' a1 a2 a3 a4 a5 a6 => hfin rr a b c fl' im' sp' a1 (fun q => ?_) a3 a4 a5 a6)
      rw [a2, tb_or, or_assoc]
      refine or_congr_right ?_
      have es : stS w n lt v = (cmA w n lt (bas lt o), snA w n lt o, lt o) :: stS w n lt o := by
        unfold stS
        rw [e, List.map_cons, er]
      rw [es]
      show _ ↔ (∃ x, RWs (y1 n w) (bW2 pr sz ins) x ∧ q = imc (cmA w n lt (bas lt v)) x) ∨ ACs (y1 n w) sz pr (cmA w n lt (bas lt o)) (fun z => ∃ x l, RWs (y1 n w) (bW2 pr sz ins) x ∧ 4 ≤ l ∧ l < 6 ∧ z = thn (snA w n lt o) (sB (y1 n w) (lt o) l x)) (stS w n lt o) q
      have wsx : ∀ x, RWs (y1 n w) (bW2 pr sz ins) x → WS (y1 n w) x := fun x hx => RWs_WS (fun x ⟨i, hi, _, e⟩ => by rw [← e]; exact hE.1 i hi) hx
      refine or_congr ?_ (ACs_congr _ _ _ _ (fun x => ?_) q)
      · rw [er2]
        constructor
        · rintro ⟨i, hi, h1, h2⟩
          exact ⟨_, ((er1 i).1 h1).2, h2⟩
        · rintro ⟨x, hx, eq⟩
          obtain ⟨i, hi, ei⟩ := hE.2.2 x (wsx x hx)
          exact ⟨i, hi, (er1 i).2 ⟨hi, by rw [ei]; exact hx⟩, by rw [ei]; exact eq⟩
      · constructor
        · rintro ⟨q, hq, hb3, eq⟩
          obtain ⟨_, i, l, hi, h1, h4, h6', e3⟩ := (er3 q).1 hb3
          exact ⟨_, l, ((er1 i).1 h1).2, h4, h6', by rw [← eq, e3, ej0]⟩
        · rintro ⟨u, l, hu, h4, h6', ex⟩
          obtain ⟨i, hi, ei⟩ := hE.2.2 u (wsx u hu)
          obtain ⟨q, hq, eq⟩ := hE.2.2 _ (WS_stp (hE.1 j0 hj0) (.inr (.inr ⟨lt o, l, _, lo2, h4, h6', wsx u hu, rfl⟩)))
          refine ⟨q, hq, (er3 q).2 ⟨hq, i, l, hi, (er1 i).2 ⟨hi, by rw [ei]; exact hu⟩, h4, h6', by rw [eq, ei]⟩, by rw [eq, ex, ej0]⟩
  refine key _ k rfl (Nat.le_refl k) 0 (2 ^ i0) 0 fn im sp (by have := (one_NS W h6 k).2; omega) (by omega) (p2_lt64 (by omega)) (fun i hi => by rw [tb_p2.1 hi]; exact hi0) ⟨i0, tb_p2.2 rfl⟩ F hf (fun q hq => absurd (tb_0.1 hq) id) (fun r a b c fl' im' sp' a1 a2 a3 a4 a5 a6 => hE2 _ _ _ _ _ _ _ ?_)
  refine q_reachedP (HeldOk_one W W) hn z60 hpa hR a5 (l := 0) (.inl rfl) a1 (fun q hq => cS q (a3 q hq)) a4 (fun q hq => a6 q (a3 q hq)) (fun r3 fl3 im3 sp3 b1 b2 b3 b4 _ => ?_)
  refine h _ _ _ _ b1 (fun q => ?_) (fun q hq => RC0_NS hok hE (fun q hq => (hcn q).1 (a3 q hq)) ((b2 q).1 hq)) b3 (fun q hq => b4 q (.inl (a6 q hq)))
  rw [b2]
  refine RC_congr (fun q => ?_) q
  rw [a2, tb_0, false_or]
  refine ACs_congr _ _ _ _ (fun x => ?_) q
  constructor
  · rintro ⟨i, hi, g, e⟩
    rw [← e, tb_p2.1 g, ei0]
  · intro e
    exact ⟨i0, hi0, tb_p2.2 rfl, by rw [ei0, e]⟩
