/-- the class's places, put together, not spent -/
def PcG (y : Sy) (nc : Nat) (fl co : Int64) (pz wz ws : Int32) (pa so wa nx ar pl sl im : Nat → Int32) (sp : Nat → Int64) : Prop :=
  ∃ sz st pr wo fn cn n, wz = nI sz ∧ ws = nI st ∧ WhOk y sz st pr wo pa so wa nx ar pl sl ∧ fl = lN fn ∧ FI nc sz pr fn im sp ∧ co = lN cn ∧ cn < 18446744073709551616 ∧ (∀ q, cn.testBit q = true ↔ ∃ x d, NS y q x d) ∧ (∀ q, cn.testBit q = true → fn.testBit q = true) ∧ pz = nI n ∧ n ≤ 60 ∧ ∃ f, Enum (PS y) f n
def PcS (y : Sy) (pz : Int32) : Prop := ∃ n, pz = nI n ∧ 60 < n ∧ n ≤ 3840 ∧ Big (PS y)
/-- what the class keeps of places: it is right as long as the readers haven't changed -/
def PInv (y : Sy) (nc B ch : Nat) (fl co : Int64) (pz ed sn wz ws : Int32) (pa so wa nx ar pl sl im : Nat → Int32) (sp : Nat → Int64) : Prop :=
  ∃ e s, ed = nI e ∧ sn = nI s ∧ e ≤ B ∧ s ≤ ch ∧ (e ≠ 0 → s = ch → PcS y pz ∨ PcG y nc fl co pz wz ws pa so wa nx ar pl sl im sp)
theorem PcS_G {y : Sy} {nc : Nat} {fl co : Int64} {pz wz ws : Int32} {pa so wa nx ar pl sl im : Nat → Int32} {sp : Nat → Int64} (h : PcG y nc fl co pz wz ws pa so wa nx ar pl sl im sp) : ¬ Big (PS y) := by
  obtain ⟨sz, st, pr, wo, fn, cn, n, _, _, _, _, _, _, _, _, _, _, hn, f, hf⟩ := h
  intro hb
  have := Enum_Big hf hb
  omega
section
variable {y : Sy} {bo n1 m1 t1 n2 m2 t2 : Nat} {w1 w2 : Nat → Nat} {nc : Nat}
theorem q_changes {c1 c2 : Nat} (hb : bo = 0 ∨ bo = 1) {K : Int32 → Prop} (h : K (nI (c1 + bo * c2))) : wX1_changes (nI bo) (nI c1) (nI c2) K := by
  unfold wX1_changes wX5_changes
  refine q_bo hb (fun e => ?_) (fun e => ?_)
  · subst e; simpa [nI_add, q_lit] using h
  · subst e; rw [nI_add]; simpa using h
theorem q_areSpent (hH : HeldOk y bo n1 m1 t1 n2 m2 t2 w1 w2) (hn : ncOk y nc) {B c1 c2 : Nat} (hB : B < 1073741824) (hc : c1 + bo * c2 < 1073741824) {fl co : Int64} {pz ed sn wz ws wsp : Int32} {pa so wa nx ar pl sl im : Nat → Int32} {sp : Nat → Int64} (P : PInv y nc B (c1 + bo * c2) fl co pz ed sn wz ws pa so wa nx ar pl sl im sp)
    {K : Int32 → Int64 → Int64 → Int32 → Int32 → Int32 → Int32 → Int32 → Int32 → (Nat → Int32) → (Nat → Int32) → (Nat → Int32) → (Nat → Int32) → (Nat → Int32) → (Nat → Int32) → (Nat → Int32) → (Nat → Int32) → (Nat → Int64) → Prop}
    (h : ∀ r fl' co' pz' ed' sn' wz' ws' wsp' pa' so' wa' nx' ar' pl' sl' im' sp', PInv y nc (B + 1) (c1 + bo * c2) fl' co' pz' ed' sn' wz' ws' pa' so' wa' nx' ar' pl' sl' im' sp' →
      ((r = nI 1 ∧ PcS y pz') ∨ (r = nI 0 ∧ PcG y nc fl' co' pz' wz' ws' pa' so' wa' nx' ar' pl' sl' im' sp')) →
      ((sn' = nI (c1 + bo * c2) ∧ ed' ≠ 0) ∧ ((ed' = ed ∧ sn' = sn ∧ wz' = wz ∧ ws' = ws ∧ pa' = pa ∧ wa' = wa) ∨ (∃ e, ed = nI e ∧ ed' = nI (e + 1)))) →
      K r fl' co' pz' ed' sn' wz' ws' wsp' pa' so' wa' nx' ar' pl' sl' im' sp') :
    wX4_areSpent fl co pz ed sn (nI bo) (nI n1) (nI m1) (nI c1) (fun j => nI (w1 j)) (nI n2) (nI m2) (nI c2) (fun j => nI (w2 j)) wz ws wsp pa so wa nx ar pl sl im sp nc K := by
  have hy := HeldOk_Sy hH
  have hbo := HeldOk_bo hH
  obtain ⟨e, s, ee, es, he, hs, hv⟩ := P
  subst ee; subst es
  have reb : ∀ (x3 r2 : Int32), x3 = nI (e + 1) → r2 = nI (c1 + bo * c2) → wX10_build wz ws wsp (nI bo) (nI n1) (nI m1) (fun j => nI (w1 j)) (nI n2) (nI m2) (fun j => nI (w2 j)) pa so wa nx ar pl sl (fun u4 u5 u6 u7 u8 u9 u10 u11 u12 u13 => (wX10_areSpent u6 (fun r14 => ((r14 = (0 : Int32) → (wX1_beginning (nI bo) (fun r17 => ∀ x18 : Int64, x18 = ((1 : Int64) <<< ((r17).toInt64 &&& (63 : Int64))) → wX4_spread x18 (0 : Int64) u4 u7 im sp nc (fun r19 u20 u21 u22 => wX4_reached r19 (4 : Int32) u20 (fun j => nI (w1 j)) (fun j => nI (w2 j)) u4 u7 u21 u22 nc (fun r23 u24 u25 u26 => wX4_reached r23 (0 : Int32) u24 (fun j => nI (w1 j)) (fun j => nI (w2 j)) u4 u7 u25 u26 nc (fun r27 u28 u29 u30 => wX4_alone r23 (4 : Int32) (fun j => nI (w1 j)) (fun j => nI (w2 j)) nc (fun r31 => wX4_alone r27 (0 : Int32) (fun j => nI (w1 j)) (fun j => nI (w2 j)) nc (fun r32 => wX4_sizeFrom ((x18 ||| r31) ||| r32) u4 u29 nc (fun r33 => (r33 ≤ (60 : Int32) → K (0 : Int32) u28 r27 r33 x3 r2 u4 u5 u6 u7 u8 u9 u10 u11 u12 u13 u29 u30) ∧ (¬ r33 ≤ (60 : Int32) → K (1 : Int32) u28 r27 r33 x3 r2 u4 u5 u6 u7 u8 u9 u10 u11 u12 u13 u29 u30)))))))))) ∧ (¬ r14 = (0 : Int32) → K (1 : Int32) (0 : Int64) (0 : Int64) (61 : Int32) x3 r2 u4 u5 u6 u7 u8 u9 u10 u11 u12 u13 im sp))))) := by
    intro x3 r2 ex er
    subst ex; subst er
    refine q_build hH (fun sz st pr wo sp0 pa1 so1 wa1 nx1 ar1 pl1 sl1 hsp hW => ?_)
    unfold wX10_areSpent
    refine ⟨by rcases hsp with e | ⟨e, _⟩ <;> rw [e] <;> rfl, ?_⟩
    refine SpB_cases hsp (fun e0 => ?_) (fun e1 hBg => ?_)
    · have W := hW e0
      have hz := W.1.1
      refine q_reb hH hn hz W.2.2.1 (fun i hi => (W.1.2.1 i hi).1) (WhOk_Enum W) (K := fun r33 u28 r27 u29 u30 => (r33 ≤ (60 : Int32) → K (0 : Int32) u28 r27 r33 _ _ _ _ _ _ _ _ _ _ _ _ u29 u30) ∧ (¬ r33 ≤ (60 : Int32) → K (1 : Int32) u28 r27 r33 _ _ _ _ _ _ _ _ _ _ _ _ u29 u30)) (fun n fn cn im' sp' a1 a2 a3 a4 a5 a6 => ?_)
      have G : n ≤ 60 → PcG y nc (lN fn) (lN cn) (nI n) (nI sz) (nI st) pa1 so1 wa1 nx1 ar1 pl1 sl1 im' sp' := fun g => ⟨sz, st, pr, wo, fn, cn, n, rfl, rfl, W, rfl, a3, rfl, a4, a5, a6, rfl, g, a1⟩
      have S : 60 < n → PcS y (nI n) := fun g => ⟨n, rfl, g, a2, by obtain ⟨f, hf⟩ := a1; exact Enum_gt hf g⟩
      rw [show (60 : Int32) = nI 60 from rfl, q_le (by omega) (by omega)]
      exact ⟨fun g => h _ _ _ _ _ _ _ _ _ _ _ _ _ _ _ _ _ _ ⟨e + 1, _, rfl, rfl, by omega, Nat.le_refl _, fun _ _ => .inr (G g)⟩ (.inr ⟨rfl, G g⟩) ⟨⟨rfl, fun g => absurd ((q_eq (b := 0) (by omega) (by omega)).1 g) (by omega)⟩, .inr ⟨e, rfl, rfl⟩⟩, fun g => h _ _ _ _ _ _ _ _ _ _ _ _ _ _ _ _ _ _ ⟨e + 1, _, rfl, rfl, by omega, Nat.le_refl _, fun _ _ => .inl (S (by omega))⟩ (.inl ⟨rfl, S (by omega)⟩) ⟨⟨rfl, fun g => absurd ((q_eq (b := 0) (by omega) (by omega)).1 g) (by omega)⟩, .inr ⟨e, rfl, rfl⟩⟩⟩
    · have S : PcS y (nI 61) := ⟨61, rfl, by omega, by omega, Big_W hy hBg⟩
      exact h _ _ _ _ _ _ _ _ _ _ _ _ _ _ _ _ _ _ ⟨e + 1, _, rfl, rfl, by omega, Nat.le_refl _, fun _ _ => .inl S⟩ (.inl ⟨rfl, S⟩) ⟨⟨rfl, fun g => absurd ((q_eq (b := 0) (by omega) (by omega)).1 g) (by omega)⟩, .inr ⟨e, rfl, rfl⟩⟩
  unfold wX4_areSpent
  have e3 : nI e + (1 : Int32) = nI (e + 1) := nI_1 e
  refine ⟨fun _ => q_changes hbo ?_, fun g0 => q_changes hbo ?_⟩
  · intro x3 ex
    exact reb x3 _ (ex.trans e3) rfl
  · have ne : e ≠ 0 := fun g => g0 (by rw [g]; rfl)
    rw [q_eq (by omega) (by omega)]
    refine ⟨fun g => ?_, fun _ => q_changes hbo ?_⟩
    · have hP := hv ne g
      have P' : PInv y nc (B + 1) (c1 + bo * c2) fl co pz (nI e) (nI s) wz ws pa so wa nx ar pl sl im sp := ⟨e, s, rfl, rfl, by omega, hs, fun _ _ => hP⟩
      rcases hP with ⟨n, en, h1, h2, h3⟩ | hG
      · subst en
        rw [show (60 : Int32) = nI 60 from rfl, q_le (by omega) (by omega)]
        exact ⟨fun g' => absurd g' (by omega), fun _ => h _ _ _ _ _ _ _ _ _ _ _ _ _ _ _ _ _ _ P' (.inl ⟨rfl, n, rfl, h1, h2, h3⟩) ⟨⟨by rw [g], g0⟩, .inl ⟨rfl, rfl, rfl, rfl, rfl, rfl⟩⟩⟩
      · obtain ⟨sz, st, pr, wo, fn, cn, n, b1, b2, b3, b4, b5, b6, b7, b8, b9, b10, b11, b12⟩ := id hG
        rw [b10, show (60 : Int32) = nI 60 from rfl, q_le (by omega) (by omega)]
        exact ⟨fun _ => by rw [← b10]; exact h _ _ _ _ _ _ _ _ _ _ _ _ _ _ _ _ _ _ P' (.inr ⟨rfl, hG⟩) ⟨⟨by rw [g], g0⟩, .inl ⟨rfl, rfl, rfl, rfl, rfl, rfl⟩⟩, fun g' => absurd b11 g'⟩
    · intro x39 ex
      exact reb x39 _ (ex.trans e3) rfl
end
