theorem orN_tb {g : Nat → Nat} {q : Nat} : ∀ {n : Nat}, (orN g n).testBit q = true ↔ ∃ c, c < n ∧ (g c).testBit q = true
  | 0 => by rw [show orN g 0 = 0 from rfl, tb_0]; exact ⟨False.elim, fun ⟨c, h, _⟩ => by omega⟩
  | n + 1 => by
    rw [show orN g (n + 1) = orN g n ||| g n from rfl, tb_or, orN_tb]
    constructor
    · rintro (⟨c, h1, h2⟩ | h)
      · exact ⟨c, by omega, h2⟩
      · exact ⟨n, by omega, h⟩
    · rintro ⟨c, h1, h2⟩
      by_cases e : c = n
      · right; rw [← e]; exact h2
      · left; exact ⟨c, by omega, h2⟩
theorem orN_lt64 {g : Nat → Nat} (h : ∀ i, g i < 18446744073709551616) : ∀ n, orN g n < 18446744073709551616
  | 0 => by rw [show orN g 0 = 0 from rfl]; omega
  | n + 1 => or_lt64 (orN_lt64 h n) (h n)
theorem Enum_add {α : Type} {S T : α → Prop} {f g : Nat → α} {n m : Nat} (hS : Enum S f n) (hT : Enum T g m) (hd : ∀ x, S x → ¬ T x) : Enum (fun x => S x ∨ T x) (fun i => if i < n then f i else g (i - n)) (n + m) := by
  refine ⟨fun i hi => ?_, fun i j hi hj e => ?_, fun x hx => ?_⟩
  · show S (if i < n then f i else g (i - n)) ∨ T (if i < n then f i else g (i - n))
    split
    · exact .inl (hS.1 i (by omega))
    · exact .inr (hT.1 _ (by omega))
  · have e : (if i < n then f i else g (i - n)) = (if j < n then f j else g (j - n)) := e
    split at e <;> split at e
    · exact hS.2.1 i j (by omega) (by omega) e
    · exact absurd (hT.1 (j - n) (by omega)) (by rw [← e]; exact hd _ (hS.1 i (by omega)))
    · exact absurd (hT.1 (i - n) (by omega)) (by rw [e]; exact hd _ (hS.1 j (by omega)))
    · have := hT.2.1 (i - n) (j - n) (by omega) (by omega) e
      omega
  · rcases hx with h | h
    · obtain ⟨i, hi, e⟩ := hS.2.2 x h
      exact ⟨i, by omega, by show (if i < n then f i else g (i - n)) = x; rw [if_pos hi, e]⟩
    · obtain ⟨i, hi, e⟩ := hT.2.2 x h
      exact ⟨n + i, by omega, by show (if n + i < n then f (n + i) else g (n + i - n)) = x; rw [if_neg (by omega), Nat.add_sub_cancel_left, e]⟩
theorem Enum_map {α β : Type} {S : α → Prop} {f : Nat → α} {n : Nat} (hS : Enum S f n) (h : α → β) (hi : ∀ x z, S x → S z → h x = h z → x = z) : Enum (fun w => ∃ x, S x ∧ w = h x) (fun i => h (f i)) n :=
  ⟨fun i hi' => ⟨f i, hS.1 i hi', rfl⟩, fun i j hi' hj e => hS.2.1 i j hi' hj (hi _ _ (hS.1 i hi') (hS.1 j hj) e), fun w ⟨x, hx, e⟩ => by
    obtain ⟨i, hi', e'⟩ := hS.2.2 x hx
    exact ⟨i, hi', by rw [e, ← e']⟩⟩
theorem Enum_congr {α : Type} {S T : α → Prop} {f : Nat → α} {n : Nat} (hS : Enum S f n) (h : ∀ x, S x ↔ T x) : Enum T f n :=
  ⟨fun i hi => (h _).1 (hS.1 i hi), hS.2.1, fun x hx => hS.2.2 x ((h x).2 hx)⟩
theorem Enum_bits (p : Nat → Bool) : ∀ n, ∃ f, Enum (fun q => q < n ∧ p q = true) f (cdN p n)
  | 0 => ⟨fun _ => 0, fun i hi => by have := cdN_le p 0; omega, fun i j hi => by have := cdN_le p 0; omega, fun x hx => by omega⟩
  | n + 1 => by
    obtain ⟨f, hf⟩ := Enum_bits p n
    have e : cdN p (n + 1) = cdN p n + (if p n then 1 else 0) := rfl
    cases hp : p n
    · rw [hp] at e
      simp only [Bool.false_eq_true, if_false, Nat.add_zero] at e
      rw [e]
      refine ⟨f, Enum_congr hf fun q => ⟨fun h => ⟨by omega, h.2⟩, fun h => ⟨?_, h.2⟩⟩⟩
      by_cases g : q = n
      · rw [g, hp] at h; exact absurd h.2 (by decide)
      · omega
    · rw [hp] at e
      simp only [if_true] at e
      rw [e]
      refine ⟨_, Enum_congr (Enum_add hf (T := fun q => q = n) (g := fun _ => n) (m := 1) ⟨fun i _ => rfl, fun i j hi hj _ => by omega, fun x hx => ⟨0, by omega, hx.symm⟩⟩ (fun x hx => by omega)) fun q => ⟨fun h => ?_, fun h => ?_⟩⟩
      · rcases h with h | h
        · exact ⟨by omega, h.2⟩
        · rw [h]; exact ⟨by omega, hp⟩
      · by_cases g : q = n
        · exact .inr g
        · exact .inl ⟨by omega, h.2⟩
/-- the codes to which one whole leads from a set of codes -/
def sbF (nc : Nat) (pr : Nat → Nat) (a i : Nat) : Nat := orN (fun c => if a.testBit c then 2 ^ imc c (pr i) else 0) nc
theorem sbF_tb {nc a i q : Nat} {pr : Nat → Nat} : (sbF nc pr a i).testBit q = true ↔ ∃ c, c < nc ∧ a.testBit c = true ∧ q = imc c (pr i) := by
  unfold sbF
  rw [orN_tb]
  constructor
  · rintro ⟨c, h1, h2⟩
    cases hb : a.testBit c
    · rw [hb] at h2; simp at h2
    · rw [hb] at h2; exact ⟨c, h1, hb, tb_p2.1 h2⟩
  · rintro ⟨c, h1, h2, h3⟩
    exact ⟨c, h1, by rw [h2]; exact tb_p2.2 h3⟩
theorem sbF_lt {nc a i : Nat} {pr : Nat → Nat} : sbF nc pr a i < 18446744073709551616 := by
  refine orN_lt64 (fun c => ?_) nc
  split
  · exact p2_lt64 (imc_lt _ _)
  · omega
theorem q_imageP {nc sz : Nat} {pr : Nat → Nat} {fl : Nat} {im : Nat → Int32} {sp : Nat → Int64} (hn : nc ≤ 64) (hz : sz ≤ 60) (F : FI nc sz pr fl im sp) {c i : Nat} (hc : c < nc) (hf : fl.testBit c = true) (hi : i < sz) {K : Int32 → Prop} (h : K (nI (imc c (pr i)))) : wX4_image (nI c) (nI i) im nc K := by
  obtain ⟨F1, _⟩ := F.2 c hc hf
  unfold wX4_image
  simp (disch := omega) only [q_lit, nI_add, pk_mul, q_a1, q_a3, q_a7, q_a31, q_a63, q_a255, q_a511, q_or, q_shr, q_shl, q_le, q_lt, q_eq, q_in, q_cl, q_neg, q_neg', q_nlt0, q_nle, q_nlt, q_nle', q_nlt', forall_eq, true_implies, false_implies, not_true_eq_false, not_false_eq_true, and_true, true_and, Nat.reduceMod, Nat.reducePow, Nat.reduceAdd, Nat.reduceMul, Nat.reduceDiv, Nat.reduceSub, Nat.reduceEqDiff, Nat.reduceLeDiff, Nat.reduceLT]
  rw [F1 i hi]
  exact ⟨fun g => absurd g (by omega), fun _ => ⟨fun g => absurd g (by omega), fun _ => ⟨by omega, h⟩⟩⟩
theorem q_sizeFrom {y : Sy} {nc sz : Nat} {pr : Nat → Nat} (hn : ncOk y nc) (hz : sz ≤ 60) {fl : Nat} {im : Nat → Int32} {sp : Nat → Int64} (F : FI nc sz pr fl im sp) {a : Nat} (ha : a < 18446744073709551616) (haf : ∀ q, a.testBit q = true → fl.testBit q = true) {K : Int32 → Prop} (h : K (nI (sumN (fun i => cdN (fun q => (sbF nc pr a i).testBit q) 64) sz))) : wX4_sizeFrom (lN a) (nI sz) im nc K := by
  have n64 := nc_64 hn
  have bd : ∀ k, sumN (fun i => cdN (fun q => (sbF nc pr a i).testBit q) 64) k ≤ k * 64 := fun k => sumN_le (fun i => cdN_le _ 64) k
  unfold wX4_sizeFrom wX4_sizeFrom_L5
  intro P hP
  refine q_cnt0 (Q := fun k => P (nI (sumN (fun i => cdN (fun q => (sbF nc pr a i).testBit q) 64) k)) (nI k)) sz ?_ ?_
  · refine hP _ _ ?_
    unfold wX10_size
    simp (disch := omega) only [q_lit, nI_add, pk_mul, q_a1, q_a3, q_a7, q_a31, q_a63, q_a255, q_a511, q_or, q_shr, q_shl, q_le, q_lt, q_eq, q_in, q_cl, q_neg, q_neg', q_nlt0, q_nle, q_nlt, q_nle', q_nlt', forall_eq, true_implies, false_implies, not_true_eq_false, not_false_eq_true, and_true, true_and, Nat.reduceMod, Nat.reducePow, Nat.reduceAdd, Nat.reduceMul, Nat.reduceDiv, Nat.reduceSub, Nat.reduceEqDiff, Nat.reduceLeDiff, Nat.reduceLT, Nat.le_refl]
    exact h
  · intro i hi ih
    refine hP _ _ ?_
    unfold wX10_size
    simp (disch := omega) only [q_lit, nI_add, pk_mul, q_a1, q_a3, q_a7, q_a31, q_a63, q_a255, q_a511, q_or, q_shr, q_shl, q_le, q_lt, q_eq, q_in, q_cl, q_neg, q_neg', q_nlt0, q_nle, q_nlt, q_nle', q_nlt', forall_eq, true_implies, false_implies, not_true_eq_false, not_false_eq_true, and_true, true_and, Nat.reduceMod, Nat.reducePow, Nat.reduceAdd, Nat.reduceMul, Nat.reduceDiv, Nat.reduceSub, Nat.reduceEqDiff, Nat.reduceLeDiff, Nat.reduceLT]
    refine ⟨fun g => absurd g (by omega), fun _ => ?_⟩
    unfold wX4_sizeFrom_L23
    intro P2 hP2
    refine q_cnt0 (Q := fun c => P2 (lN (orN (fun c => if a.testBit c then 2 ^ imc c (pr i) else 0) c)) (nI c)) nc ?_ ?_
    · refine hP2 _ _ ?_
      simp (disch := omega) only [q_lit, nI_add, pk_mul, q_a1, q_a3, q_a7, q_a31, q_a63, q_a255, q_a511, q_or, q_shr, q_shl, q_le, q_lt, q_eq, q_in, q_cl, q_neg, q_neg', q_nlt0, q_nle, q_nlt, q_nle', q_nlt', forall_eq, true_implies, false_implies, not_true_eq_false, not_false_eq_true, and_true, true_and, Nat.reduceMod, Nat.reducePow, Nat.reduceAdd, Nat.reduceMul, Nat.reduceDiv, Nat.reduceSub, Nat.reduceEqDiff, Nat.reduceLeDiff, Nat.reduceLT, Nat.le_refl]
      refine q_bitCountL (sbF_lt (nc := nc) (pr := pr) (a := a) (i := i)) ?_
      simp only [q_lit, nI_add, pk_mul, q_a1, q_a3, q_a7, q_a31, q_a63, q_a255, q_a511, q_or, q_shr, q_shl, q_le, q_lt, q_eq, q_in, q_cl, q_neg, q_neg', q_nlt0, q_nle, q_nlt, q_nle', q_nlt', forall_eq, true_implies, false_implies, not_true_eq_false, not_false_eq_true, and_true, true_and, Nat.reduceMod, Nat.reducePow, Nat.reduceAdd, Nat.reduceMul, Nat.reduceDiv, Nat.reduceSub, Nat.reduceEqDiff, Nat.reduceLeDiff, Nat.reduceLT]
      exact ih
    · intro c hc ih2
      refine hP2 _ _ ?_
      rw [q_tst ha (by omega)]
      simp (disch := omega) only [q_lit, nI_add, pk_mul, q_a1, q_a3, q_a7, q_a31, q_a63, q_a255, q_a511, q_or, q_shr, q_shl, q_le, q_lt, q_eq, q_in, q_cl, q_neg, q_neg', q_nlt0, q_nle, q_nlt, q_nle', q_nlt', forall_eq, true_implies, false_implies, not_true_eq_false, not_false_eq_true, and_true, true_and, Nat.reduceMod, Nat.reducePow, Nat.reduceAdd, Nat.reduceMul, Nat.reduceDiv, Nat.reduceSub, Nat.reduceEqDiff, Nat.reduceLeDiff, Nat.reduceLT]
      rw [show orN (fun c => if a.testBit c then 2 ^ imc c (pr i) else 0) (c + 1) = orN (fun c => if a.testBit c then 2 ^ imc c (pr i) else 0) c ||| (if a.testBit c then 2 ^ imc c (pr i) else 0) from rfl] at ih2
      refine ⟨fun g => absurd g (by omega), fun _ => ⟨fun g => ?_, fun g => ?_⟩⟩
      · rw [g] at ih2; simpa using ih2
      · have hb : a.testBit c = true := by cases hb : a.testBit c; exact absurd hb g; rfl
        refine q_imageP n64.1 hz F hc (haf c hb) hi ?_
        rw [q_oneL (imc_lt _ _), lN_or]
        rw [hb] at ih2
        exact ih2
/-- the places -/
def PS (y : Sy) (p : Nat × Nat) : Prop := ∃ d, NS y p.1 p.2 d
theorem Enum_sum {nc : Nat} {pr : Nat → Nat} {a : Nat} : ∀ k, (∀ i j, i < k → j < k → pr i = pr j → i = j) → ∃ f, Enum (fun p : Nat × Nat => ∃ i, i < k ∧ (sbF nc pr a i).testBit p.1 = true ∧ p.2 = pr i) f (sumN (fun i => cdN (fun q => (sbF nc pr a i).testBit q) 64) k)
  | 0, _ => ⟨fun _ => (0, 0), fun i hi => absurd hi (by simp [sumN]), fun i j hi => absurd hi (by simp [sumN]), fun x ⟨i, hi, _⟩ => by omega⟩
  | k + 1, hinj => by
    obtain ⟨f, hf⟩ := Enum_sum (nc := nc) (a := a) k (fun i j hi hj e => hinj i j (by omega) (by omega) e)
    obtain ⟨g, hg⟩ := Enum_bits (fun q => (sbF nc pr a k).testBit q) 64
    have hg2 := Enum_map hg (fun q => ((q, pr k) : Nat × Nat)) (fun x z _ _ e => by injection e)
    refine ⟨_, Enum_congr (Enum_add hf hg2 (fun p ⟨i, hi, _, e⟩ ⟨q, _, e'⟩ => ?_)) fun p => ⟨fun hp => ?_, fun ⟨i, hi, h1, h2⟩ => ?_⟩⟩
    · rw [e'] at e
      have := hinj i k (by omega) (by omega) e.symm
      omega
    · rcases hp with ⟨i, hi, h1, h2⟩ | ⟨q, ⟨_, h1⟩, e⟩
      · exact ⟨i, by omega, h1, h2⟩
      · rw [e]; exact ⟨k, by omega, h1, rfl⟩
    · by_cases e : i = k
      · subst e
        exact .inr ⟨p.1, ⟨tb_lt64 sbF_lt h1, h1⟩, by rw [← h2]⟩
      · exact .inl ⟨i, by omega, h1, h2⟩
theorem Enum_places {y : Sy} (hy : SyOk y) {nc sz : Nat} {pr : Nat → Nat} (hn : ncOk y nc) (hE : Enum (WS y) pr sz) {a : Nat} (ha : ∀ b, a.testBit b = true ↔ ∃ d, BG y b d) : ∃ f, Enum (PS y) f (sumN (fun i => cdN (fun q => (sbF nc pr a i).testBit q) 64) sz) := by
  obtain ⟨f, hf⟩ := Enum_sum (nc := nc) (a := a) sz hE.2.1
  refine ⟨f, Enum_congr hf fun p => ⟨fun ⟨i, hi, h1, h2⟩ => ?_, fun ⟨d, hd⟩ => ?_⟩⟩
  · obtain ⟨c, _, h3, h4⟩ := sbF_tb.1 h1
    obtain ⟨d, hd⟩ := (ha c).1 h3
    exact ⟨d, (NS_char hy).2 ⟨c, hd, by rw [h2]; exact hE.1 i hi, by rw [h4, h2]⟩⟩
  · obtain ⟨b, hb, hx, e⟩ := (NS_char hy).1 hd
    obtain ⟨i, hi, ei⟩ := hE.2.2 _ hx
    exact ⟨i, hi, sbF_tb.2 ⟨b, S2_nc hn (BG_S2 hy hb), (ha b).2 ⟨d, hb⟩, by rw [e, ei]⟩, ei.symm⟩
theorem Enum_gt {α : Type} {S : α → Prop} {f : Nat → α} {n : Nat} (h : Enum S f n) (hn : 60 < n) : Big S := ⟨f, fun i hi => h.1 i (by omega), fun i j hi hj e => h.2.1 i j (by omega) (by omega) e⟩
theorem Big_W {y : Sy} (hy : SyOk y) (h : Big (WS y)) : Big (PS y) := by
  obtain ⟨f, h1, h2⟩ := h
  refine ⟨fun i => (imc (s0 y) (f i), f i), fun i hi => ⟨false, (NS_char hy).2 ⟨s0 y, .inl ⟨rfl, rfl⟩, h1 i hi, rfl⟩⟩, fun i j hi hj e => h2 i j hi hj ?_⟩
  have e : (imc (s0 y) (f i), f i) = (imc (s0 y) (f j), f j) := e
  injection e
