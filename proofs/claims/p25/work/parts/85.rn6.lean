def sto (lt : Nat → Nat) (i d : Nat) : Nat := (stk lt i).getD ((stk lt i).length - 1 - d) 0
def RK (w lt : Nat → Nat) (i : Nat) (kr kw : Nat → Int64) : Prop := ∀ d, d < (stk lt i).length → (∀ p, p < 3 → kr (3 * d + p) = lN (crA w lt (sto lt i d) p)) ∧ ∀ q, q < 9 → kw (9 * d + q) = lN (srA w lt (sto lt i d) q)
theorem getD_cons {a : Nat} {r : List Nat} {d : Nat} (h : d < r.length) : (a :: r).getD ((a :: r).length - 1 - d) 0 = r.getD (r.length - 1 - d) 0 := by
  rw [List.length_cons, show r.length + 1 - 1 - d = (r.length - 1 - d) + 1 from by omega]; rfl
theorem getD_top {a : Nat} {r : List Nat} : (a :: r).getD ((a :: r).length - 1 - r.length) 0 = a := by
  rw [List.length_cons, show r.length + 1 - 1 - r.length = 0 from by omega]; rfl
theorem sto_push {lt : Nat → Nat} {i d : Nat} (h : lt i < 2) (hd : d < (stk lt i).length) : sto lt (i + 1) d = sto lt i d := by
  unfold sto
  rw [show stk lt (i + 1) = i :: stk lt i from by rw [stk, if_pos h]]
  exact getD_cons hd
theorem sto_new {lt : Nat → Nat} {i : Nat} (h : lt i < 2) : sto lt (i + 1) (stk lt i).length = i := by
  unfold sto
  rw [show stk lt (i + 1) = i :: stk lt i from by rw [stk, if_pos h]]
  exact getD_top
theorem stk_same {lt : Nat → Nat} {i : Nat} (h2 : 2 ≤ lt i) (h : lt i < 4 ∨ stk lt i = []) : stk lt (i + 1) = stk lt i := by
  rw [stk, if_neg (by omega)]
  by_cases h4 : lt i < 4
  · rw [if_pos h4]
  · rw [if_neg h4]
    rcases h with h | h
    · exact absurd h h4
    · rw [h]; rfl
theorem stk_pop {lt : Nat → Nat} {i o : Nat} {r : List Nat} (h4 : 4 ≤ lt i) (e : stk lt i = o :: r) : stk lt (i + 1) = r := by
  rw [stk, if_neg (by omega), if_neg (by omega), e]; rfl
theorem RK_same {w lt : Nat → Nat} {i : Nat} {kr kw : Nat → Int64} (h : stk lt (i + 1) = stk lt i) (H : RK w lt i kr kw) : RK w lt (i + 1) kr kw := by
  unfold RK sto at *
  rw [h]; exact H
theorem RK_pop {w lt : Nat → Nat} {i o : Nat} {r : List Nat} {kr kw : Nat → Int64} (h4 : 4 ≤ lt i) (e : stk lt i = o :: r) (H : RK w lt i kr kw) : RK w lt (i + 1) kr kw ∧ (∀ p, p < 3 → kr (3 * r.length + p) = lN (crA w lt o p)) ∧ ∀ q, q < 9 → kw (9 * r.length + q) = lN (srA w lt o q) := by
  unfold RK sto at *
  rw [stk_pop h4 e]
  rw [e] at H
  refine ⟨fun d hd => ?_, ?_⟩
  · have := H d (by rw [List.length_cons]; omega)
    rw [getD_cons hd] at this
    exact this
  · have := H r.length (by rw [List.length_cons]; omega)
    rw [getD_top] at this
    exact this
theorem m_L65 {d : Nat} (hd : d < 24) {A : Nat → Int64} {x : Nat → Nat} (hA : ∀ j, j < 3 → A j = lN (x j)) {E : Int32 → (Nat → Int64) → Prop} {B0 : Nat → Int64} (h : ∀ B : Nat → Int64, (∀ j, j < 3 → B (3 * d + j) = lN (x j)) → (∀ j, j < 3 * d → B j = B0 j) → E (nI 3) B) : wX12_countRuns_L65 (nI d) A E (nI 0) B0 := by
  unfold wX12_countRuns_L65
  intro P hP
  refine q_cnt0 (Q := fun i => ∀ B : Nat → Int64, (∀ j, j < i → B (3 * d + j) = lN (x j)) → (∀ j, j < 3 * d → B j = B0 j) → P (nI i) B) 3 ?_ ?_ B0 (fun j hj => absurd hj (by omega)) (fun j hj => rfl)
  · intro B H1 H2
    exact hP _ _ ⟨fun _ => h B H1 H2, fun g => absurd ((q_le (by omega) (by omega)).2 (Nat.le_refl 3)) g⟩
  · intro i hi ih B H1 H2
    refine hP _ _ ⟨fun g => absurd ((q_le (a := 3) (by omega) (by omega)).1 g) (by omega), fun _ => ?_⟩
    rw [show (3 : Int32) = nI 3 from rfl, pk_mul, nI_add, q_in (by omega), q_in (by omega), q_cl (by omega), q_cl (by omega), hA i hi]
    refine ⟨hi, by omega, fun g eg y ey => ?_⟩
    rw [ey, nI_1]
    refine ih g (fun j hj => ?_) (fun j hj => ?_)
    · rw [eg, q_updL]
      by_cases e : j = i
      · rw [if_pos (by omega), e]
      · rw [if_neg (by omega)]; exact H1 j (by omega)
    · rw [eg, q_updL, if_neg (by omega)]; exact H2 j hj
theorem m_L98 {d : Nat} (hd : d < 24) {A : Nat → Int64} {x : Nat → Nat} (hA : ∀ j, j < 9 → A j = lN (x j)) {E : Int32 → (Nat → Int64) → Prop} {B0 : Nat → Int64} (h : ∀ B : Nat → Int64, (∀ j, j < 9 → B (9 * d + j) = lN (x j)) → (∀ j, j < 9 * d → B j = B0 j) → E (nI 9) B) : wX12_countRuns_L98 (nI d) A E (nI 0) B0 := by
  unfold wX12_countRuns_L98
  intro P hP
  refine q_cnt0 (Q := fun i => ∀ B : Nat → Int64, (∀ j, j < i → B (9 * d + j) = lN (x j)) → (∀ j, j < 9 * d → B j = B0 j) → P (nI i) B) 9 ?_ ?_ B0 (fun j hj => absurd hj (by omega)) (fun j hj => rfl)
  · intro B H1 H2
    exact hP _ _ ⟨fun _ => h B H1 H2, fun g => absurd ((q_le (by omega) (by omega)).2 (Nat.le_refl 9)) g⟩
  · intro i hi ih B H1 H2
    refine hP _ _ ⟨fun g => absurd ((q_le (a := 9) (by omega) (by omega)).1 g) (by omega), fun _ => ?_⟩
    rw [show (9 : Int32) = nI 9 from rfl, pk_mul, nI_add, q_in (by omega), q_in (by omega), q_cl (by omega), q_cl (by omega), hA i hi]
    refine ⟨hi, by omega, fun g eg y ey => ?_⟩
    rw [ey, nI_1]
    refine ih g (fun j hj => ?_) (fun j hj => ?_)
    · rw [eg, q_updL]
      by_cases e : j = i
      · rw [if_pos (by omega), e]
      · rw [if_neg (by omega)]; exact H1 j (by omega)
    · rw [eg, q_updL, if_neg (by omega)]; exact H2 j hj
theorem m_L336 {d : Nat} (hd : d < 24) {A : Nat → Int64} {x : Nat → Nat} (hA : ∀ j, j < 3 → A (3 * d + j) = lN (x j)) {E : Int32 → (Nat → Int64) → Prop} {B0 : Nat → Int64} (h : ∀ B : Nat → Int64, (∀ j, j < 3 → B j = lN (x j)) → E (nI 3) B) : wX12_countRuns_L336 A (nI d) E (nI 0) B0 := by
  unfold wX12_countRuns_L336
  intro P hP
  refine q_cnt0 (Q := fun i => ∀ B : Nat → Int64, (∀ j, j < i → B j = lN (x j)) → P (nI i) B) 3 ?_ ?_ B0 (fun j hj => absurd hj (by omega))
  · intro B H1
    exact hP _ _ ⟨fun _ => h B H1, fun g => absurd ((q_le (by omega) (by omega)).2 (Nat.le_refl 3)) g⟩
  · intro i hi ih B H1
    refine hP _ _ ⟨fun g => absurd ((q_le (a := 3) (by omega) (by omega)).1 g) (by omega), fun _ => ?_⟩
    rw [show (3 : Int32) = nI 3 from rfl, pk_mul, nI_add, q_in (by omega), q_in (by omega), q_cl (by omega), q_cl (by omega), hA i hi]
    refine ⟨by omega, fun z ez => ⟨hi, fun g eg y ey => ?_⟩⟩
    rw [ey, nI_1]
    refine ih g (fun j hj => ?_)
    rw [eg, q_updL]
    by_cases e : j = i
    · rw [if_pos (by omega), e, ez]
    · rw [if_neg (by omega)]; exact H1 j (by omega)
theorem m_L369 {d : Nat} (hd : d < 24) {A : Nat → Int64} {x : Nat → Nat} (hA : ∀ j, j < 9 → A (9 * d + j) = lN (x j)) {E : Int32 → (Nat → Int64) → Prop} {B0 : Nat → Int64} (h : ∀ B : Nat → Int64, (∀ j, j < 9 → B j = lN (x j)) → E (nI 9) B) : wX12_countRuns_L369 A (nI d) E (nI 0) B0 := by
  unfold wX12_countRuns_L369
  intro P hP
  refine q_cnt0 (Q := fun i => ∀ B : Nat → Int64, (∀ j, j < i → B j = lN (x j)) → P (nI i) B) 9 ?_ ?_ B0 (fun j hj => absurd hj (by omega))
  · intro B H1
    exact hP _ _ ⟨fun _ => h B H1, fun g => absurd ((q_le (by omega) (by omega)).2 (Nat.le_refl 9)) g⟩
  · intro i hi ih B H1
    refine hP _ _ ⟨fun g => absurd ((q_le (a := 9) (by omega) (by omega)).1 g) (by omega), fun _ => ?_⟩
    rw [show (9 : Int32) = nI 9 from rfl, pk_mul, nI_add, q_in (by omega), q_in (by omega), q_cl (by omega), q_cl (by omega), hA i hi]
    refine ⟨by omega, fun z ez => ⟨hi, fun g eg y ey => ?_⟩⟩
    rw [ey, nI_1]
    refine ih g (fun j hj => ?_)
    rw [eg, q_updL]
    by_cases e : j = i
    · rw [if_pos (by omega), e, ez]
    · rw [if_neg (by omega)]; exact H1 j (by omega)
section
variable {n0 m0 t0 n1 m1 t1 : Nat} {w0 w1 : Nat → Nat} {st mk tk pu go cl : Nat → Int32}
theorem m_L136 (M : MdOk n0 m0 t0 w0 n1 m1 t1 w1 st mk tk pu go cl) {r l : Nat} (hr : r < 2) (hl : l < 2) {E : Int32 → (Nat → Int64) → Prop} {B0 : Nat → Int64} (h : ∀ B : Nat → Int64, (∀ j, j < 9 → B j = lN (opW (sel r w0 w1) l j)) → E (nI 9) B) : wX12_countRuns_L136 (nI r) pu (nI l) E (nI 0) B0 := by
  have A := M.2.2.1
  have W5 : ∀ j, sel r w0 w1 j < 512 := fun j => ((MdOk_r M hr).1.2.2.2.2.2.1 j).1
  unfold wX12_countRuns_L136
  intro P hP
  refine q_cnt0 (Q := fun i => ∀ B : Nat → Int64, (∀ j, j < i → B j = lN (opW (sel r w0 w1) l j)) → P (nI i) B) 9 ?_ ?_ B0 (fun j hj => absurd hj (by omega))
  · intro B H1
    exact hP _ _ ⟨fun _ => h B H1, fun g => absurd ((q_le (by omega) (by omega)).2 (Nat.le_refl 9)) g⟩
  · intro i hi ih B H1
    have d := q_di3 i (by omega)
    refine hP _ _ ⟨fun g => absurd ((q_le (a := 9) (by omega) (by omega)).1 g) (by omega), fun _ => ?_⟩
    rw [d.2.2.1, d.1]
    refine q_putAt (i := 1) (by decide) (by omega) ?_
    rw [q_in (by omega)]
    refine ⟨by omega, q_putAt (i := 2) (by decide) (by omega) ?_⟩
    rw [q_in (by omega), q_in (by omega), q_cl (by omega), q_cl (by omega), q_cl (by omega), A.1 r l (i / 3) (1 - 1) hr hl (by omega) (by omega), A.1 r l (i / 3) (2 - 1) hr hl (by omega) (by omega), bW_rw3 _ (W5 _) _ (by omega) _ (by omega), bW_rw3 _ (W5 _) _ (by omega) _ (by omega), nI_add]
    have b1 := bW_lt (sel r w0 w1 (3 * l + (1 - 1) + 1)) (3 * (i / 3) + i % 3)
    have b2 := bW_lt (sel r w0 w1 (3 * l + (2 - 1) + 1)) (3 * (i / 3) + i % 3)
    rw [q_i64 (by omega)]
    refine ⟨by omega, fun z ez => ⟨hi, fun g eg y ey => ?_⟩⟩
    rw [ey, nI_1]
    refine ih g (fun j hj => ?_)
    rw [eg, q_updL]
    by_cases e : j = i
    · rw [if_pos (by omega), e, ez, show 3 * (i / 3) + i % 3 = i from by omega]; rfl
    · rw [if_neg (by omega)]; exact H1 j (by omega)
theorem m_L224 (M : MdOk n0 m0 t0 w0 n1 m1 t1 w1 st mk tk pu go cl) {r l : Nat} (hr : r < 2) (hl : 2 ≤ l) (hl4 : l < 4) {E : Int32 → (Nat → Int64) → Prop} {B0 : Nat → Int64} (h : ∀ B : Nat → Int64, (∀ j, j < 9 → B j = lN (bW (sel r w0 w1 (3 * l + 1)) j)) → E (nI 9) B) : wX12_countRuns_L224 (nI r) go (nI l) E (nI 0) B0 := by
  have A := M.2.2.1
  have W5 : ∀ j, sel r w0 w1 j < 512 := fun j => ((MdOk_r M hr).1.2.2.2.2.2.1 j).1
  unfold wX12_countRuns_L224
  intro P hP
  refine q_cnt0 (Q := fun i => ∀ B : Nat → Int64, (∀ j, j < i → B j = lN (bW (sel r w0 w1 (3 * l + 1)) j)) → P (nI i) B) 9 ?_ ?_ B0 (fun j hj => absurd hj (by omega))
  · intro B H1
    exact hP _ _ ⟨fun _ => h B H1, fun g => absurd ((q_le (by omega) (by omega)).2 (Nat.le_refl 9)) g⟩
  · intro i hi ih B H1
    have d := q_di3 i (by omega)
    refine hP _ _ ⟨fun g => absurd ((q_le (a := 9) (by omega) (by omega)).1 g) (by omega), fun _ => ?_⟩
    rw [d.2.2.1, d.1]
    refine q_goAt hl ?_
    rw [q_in (by omega), q_in (by omega), q_cl (by omega), q_cl (by omega), A.2.1 r (l - 2) (i / 3) hr (by omega) (by omega), bW_rw3 _ (W5 _) _ (by omega) _ (by omega)]
    have b1 := bW_lt (sel r w0 w1 (3 * (l - 2) + 7)) (3 * (i / 3) + i % 3)
    rw [q_i64 (by omega)]
    refine ⟨by omega, fun z ez => ⟨hi, fun g eg y ey => ?_⟩⟩
    rw [ey, nI_1]
    refine ih g (fun j hj => ?_)
    rw [eg, q_updL]
    by_cases e : j = i
    · rw [if_pos (by omega), e, ez, show 3 * (i / 3) + i % 3 = i from by omega, show 3 * (l - 2) + 7 = 3 * l + 1 from by omega]
    · rw [if_neg (by omega)]; exact H1 j (by omega)
theorem m_L415 (M : MdOk n0 m0 t0 w0 n1 m1 t1 w1 st mk tk pu go cl) {r l : Nat} (hr : r < 2) (hl : 4 ≤ l) (hl6 : l < 6) {E : Int32 → (Nat → Int64) → Prop} {B0 : Nat → Int64} (h : ∀ B : Nat → Int64, (∀ j, j < 9 → B j = lN (bW (sel r w0 w1 (3 * l)) j)) → E (nI 9) B) : wX12_countRuns_L415 (nI r) cl (nI l) E (nI 0) B0 := by
  have A := M.2.2.1
  have W5 : ∀ j, sel r w0 w1 j < 512 := fun j => ((MdOk_r M hr).1.2.2.2.2.2.1 j).1
  unfold wX12_countRuns_L415
  intro P hP
  refine q_cnt0 (Q := fun i => ∀ B : Nat → Int64, (∀ j, j < i → B j = lN (bW (sel r w0 w1 (3 * l)) j)) → P (nI i) B) 9 ?_ ?_ B0 (fun j hj => absurd hj (by omega))
  · intro B H1
    exact hP _ _ ⟨fun _ => h B H1, fun g => absurd ((q_le (by omega) (by omega)).2 (Nat.le_refl 9)) g⟩
  · intro i hi ih B H1
    have d := q_di3 i (by omega)
    refine hP _ _ ⟨fun g => absurd ((q_le (a := 9) (by omega) (by omega)).1 g) (by omega), fun _ => ?_⟩
    rw [d.2.2.1, d.1]
    refine q_closeAt (i := 0) (by decide) hl ?_
    rw [q_in (by omega), q_in (by omega), q_cl (by omega), q_cl (by omega), A.2.2 r (l - 4) (i / 3) 0 hr (by omega) (by omega) (by omega), bW_rw3 _ (W5 _) _ (by omega) _ (by omega)]
    have b1 := bW_lt (sel r w0 w1 (3 * (l - 4) + 12 + 0)) (3 * (i / 3) + i % 3)
    rw [q_i64 (by omega)]
    refine ⟨by omega, fun z ez => ⟨hi, fun g eg y ey => ?_⟩⟩
    rw [ey, nI_1]
    refine ih g (fun j hj => ?_)
    rw [eg, q_updL]
    by_cases e : j = i
    · rw [if_pos (by omega), e, ez, show 3 * (i / 3) + i % 3 = i from by omega, show 3 * (l - 4) + 12 + 0 = 3 * l from by omega]
    · rw [if_neg (by omega)]; exact H1 j (by omega)
theorem m_L296 (M : MdOk n0 m0 t0 w0 n1 m1 t1 w1 st mk tk pu go cl) {r a l : Nat} (hr : r < 2) (ha : a < 2) (hl : 4 ≤ l) (hl6 : l < 6) {S : Nat → Int64} {x : Nat → Nat} (hS : ∀ j, j < 9 → S j = lN (x j)) (hx : ∀ j, x j < 1000000007) {E : Int32 → (Nat → Int64) → Prop} {B0 : Nat → Int64} (h : ∀ B : Nat → Int64, (∀ j, j < 9 → B j = lN (wrW (sel r w0 w1) a l x j)) → E (nI 9) B) : wX12_countRuns_L296 (nI r) mk pu cl S (nI l) (nI a) E (nI 0) B0 := by
  unfold wX12_countRuns_L296
  intro P hP
  refine q_cnt0 (Q := fun i => ∀ B : Nat → Int64, (∀ j, j < i → B j = lN (wrW (sel r w0 w1) a l x j)) → P (nI i) B) 9 ?_ ?_ B0 (fun j hj => absurd hj (by omega))
  · intro B H1
    exact hP _ _ ⟨fun _ => h B H1, fun g => absurd ((q_le (by omega) (by omega)).2 (Nat.le_refl 9)) g⟩
  · intro i hi ih B H1
    have d := q_di3 i (by omega)
    refine hP _ _ ⟨fun g => absurd ((q_le (a := 9) (by omega) (by omega)).1 g) (by omega), fun _ => ?_⟩
    rw [d.2.2.1, d.1]
    refine m_waysOver M hr ha hl hl6 hi hS hx ?_
    rw [q_in (by omega), q_cl (by omega)]
    refine ⟨hi, fun g eg y ey => ?_⟩
    rw [ey, nI_1]
    refine ih g (fun j hj => ?_)
    rw [eg, q_updL]
    by_cases e : j = i
    · rw [if_pos (by omega), e]
    · rw [if_neg (by omega)]; exact H1 j (by omega)
end
