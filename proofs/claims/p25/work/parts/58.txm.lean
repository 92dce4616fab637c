def iL (z : Int) : Int64 := Int64.ofInt z
theorem iL_t {z : Int} (h1 : -4 ≤ z) (h2 : z < 9223372036854775808) : (iL z).toInt = z := Int64.toInt_ofInt_of_le (by omega) h2
theorem iL_eq {a b : Int} (a1 : -4 ≤ a) (a2 : a < 9223372036854775808) (b1 : -4 ≤ b) (b2 : b < 9223372036854775808) : lg_cmp (iL a) (iL b) = 0 ↔ a = b := by
  rw [q_lg]
  constructor
  · intro h
    have := congrArg Int64.toInt h
    rwa [iL_t a1 a2, iL_t b1 b2] at this
  · intro h; rw [h]
theorem iL_lt {a b : Int} (a1 : -4 ≤ a) (a2 : a < 9223372036854775808) (b1 : -4 ≤ b) (b2 : b < 9223372036854775808) : lg_cmp (iL a) (iL b) < 0 ↔ a < b := by
  unfold lg_cmp
  have hg : iL a > iL b ↔ b < a := by
    show iL b < iL a ↔ _
    rw [Int64.lt_iff_toInt_lt, iL_t a1 a2, iL_t b1 b2]
  have he : iL a = iL b ↔ a = b := by rw [← iL_eq a1 a2 b1 b2, q_lg]
  by_cases g : b < a
  · rw [if_pos (hg.2 g)]
    exact ⟨fun h => absurd h (by decide), fun h => by omega⟩
  · rw [if_neg (fun h => g (hg.1 h))]
    by_cases g2 : a = b
    · rw [if_pos (he.2 g2)]
      exact ⟨fun h => absurd h (by decide), fun h => by omega⟩
    · rw [if_neg (fun h => g2 (he.1 h))]
      exact ⟨fun _ => by omega, fun _ => by decide⟩
theorem iL_le {a b : Int} (a1 : -4 ≤ a) (a2 : a < 9223372036854775808) (b1 : -4 ≤ b) (b2 : b < 9223372036854775808) : lg_cmp (iL a) (iL b) ≤ 0 ↔ a ≤ b := by
  have h1 := iL_lt a1 a2 b1 b2
  have h2 := iL_eq a1 a2 b1 b2
  rw [show (lg_cmp (iL a) (iL b) ≤ 0) ↔ (lg_cmp (iL a) (iL b) < 0 ∨ lg_cmp (iL a) (iL b) = 0) from by
    rw [Int32.le_iff_toInt_le, Int32.lt_iff_toInt_lt, ← Int32.toInt_inj]
    show _ ≤ (0 : Int) ↔ _ < (0 : Int) ∨ _ = (0 : Int)
    omega]
  rw [h1, h2]; omega
theorem lN_iL {n : Nat} (h : n < 9223372036854775808) : lN n = iL n := by
  apply Int64.toInt_inj.1
  rw [iL_t (by omega) (by omega)]
  exact Int64.toInt_ofNat_of_lt h
/-- a word's letters as a number to the base 27 -/
def wvN (tb : Nat → Nat) (s : Nat) : Nat → Nat
  | 0 => 0
  | n + 1 => 27 * wvN tb s n + (tb (s + n) - 96)
theorem wvN_b {tb : Nat → Nat} {s : Nat} : ∀ n, (∀ j, j < n → 97 ≤ tb (s + j) ∧ tb (s + j) ≤ 122) → n ≤ wvN tb s n ∧ wvN tb s n < 27 ^ n
  | 0, _ => ⟨Nat.le_refl _, by show 0 < 1; omega⟩
  | n + 1, h => by
    have := wvN_b n (fun j hj => h j (by omega))
    have hn := h n (by omega)
    unfold wvN
    rw [Nat.pow_succ]
    omega
theorem wvN_s {tb : Nat → Nat} {s n v d : Nat} (h : ∀ j, j < n → 97 ≤ tb (s + j) ∧ tb (s + j) ≤ 122) (d1 : 1 ≤ d) (d2 : d ≤ 26) : wvN tb s n = 27 * v + d ↔ ∃ m, n = m + 1 ∧ wvN tb s m = v ∧ tb (s + m) = d + 96 := by
  cases n with
  | zero => exact ⟨fun e => by have : 0 = 27 * v + d := e; omega, fun ⟨m, e, _⟩ => by omega⟩
  | succ n =>
    have hn := h n (by omega)
    constructor
    · intro e
      unfold wvN at e
      exact ⟨n, rfl, by omega, by omega⟩
    · rintro ⟨m, e, e1, e2⟩
      have : m = n := by omega
      subst this
      unfold wvN; omega
/-- a token's number -/
def tz (tb : Nat → Nat) (z i : Nat) : Int :=
  if z ≤ tkS tb z i then -2 else if kd (tb (tkS tb z i)) = 1 then (if tkE tb z i - tkS tb z i ≤ 9 then (wvN tb (tkS tb z i) (tkE tb z i - tkS tb z i) : Int) else -4)
  else if kd (tb (tkS tb z i)) = 2 then (if tkE tb z i - tkS tb z i = 1 then -1 else -4) else if tb (tkS tb z i) = 59 then -3 else -4
def nz (tb : Nat → Nat) (z i : Nat) : Nat := if z ≤ tkS tb z i then 0 else if kd (tb (tkS tb z i)) = 2 then tb (tkE tb z i - 1) - 48 else 0
theorem kd1 {b : Nat} : kd b = 1 ↔ 97 ≤ b ∧ b ≤ 122 := by unfold kd; split <;> (try split) <;> omega
theorem kd2 {b : Nat} : kd b = 2 ↔ 48 ≤ b ∧ b ≤ 57 := by unfold kd; split <;> (try split) <;> omega
section
variable {tb : Nat → Nat} {z i : Nat}
theorem tk_letters (hi : i ≤ z) (h : tkS tb z i < z) (hk : kd (tb (tkS tb z i)) = 1) : ∀ j, j < tkE tb z i - tkS tb z i → 97 ≤ tb (tkS tb z i + j) ∧ tb (tkS tb z i + j) ≤ 122 := fun j hj => by
  have := tkN_kd tb h (by omega) (tkS tb z i + j) (by omega) (by unfold tkE at hj; omega)
  rw [hk] at this
  exact kd1.1 this
theorem tz_b (hi : i ≤ z) : -4 ≤ tz tb z i ∧ tz tb z i < 9223372036854775808 := by
  unfold tz
  split
  · omega
  · rename_i h
    split
    · rename_i hk
      split
      · rename_i h9
        have h1 := (wvN_b _ (tk_letters hi (by omega) hk)).2
        have h2 : 27 ^ (tkE tb z i - tkS tb z i) ≤ 27 ^ 9 := Nat.pow_le_pow_right (by omega) h9
        have h3 : (27 : Nat) ^ 9 = 7625597484987 := by decide
        omega
      · omega
    · split
      · split <;> omega
      · split <;> omega
theorem tz_end (hi : i ≤ z) : tz tb z i = -2 ↔ z ≤ tkS tb z i := by
  unfold tz
  split
  · rename_i h; exact ⟨fun _ => h, fun _ => rfl⟩
  · rename_i h
    refine ⟨fun e => ?_, fun g => absurd g h⟩
    split at e
    · split at e <;> omega
    · split at e
      · split at e <;> omega
      · split at e <;> omega
theorem tz_semi : tz tb z i = -3 ↔ tkS tb z i < z ∧ tb (tkS tb z i) = 59 := by
  unfold tz
  constructor
  · intro e
    split at e
    · omega
    · split at e
      · split at e <;> omega
      · split at e
        · split at e <;> omega
        · split at e
          · rename_i g; exact ⟨by omega, g⟩
          · omega
  · rintro ⟨h1, h2⟩
    have k0 : kd (tb (tkS tb z i)) = 0 := by rw [h2]; rfl
    rw [if_neg (by omega), if_neg (by omega), if_neg (by omega), if_pos h2]
theorem tz_num (hi : i ≤ z) : tz tb z i = -1 ↔ isDg tb (tkS tb z i) (tkE tb z i) := by
  have he := tkN_spec tb (tkS_spec tb hi).2
  unfold isDg
  constructor
  · intro e
    unfold tz at e
    split at e
    · omega
    · split at e
      · split at e <;> omega
      · split at e
        · rename_i g
          split at e
          · rename_i g2; exact ⟨g2, g⟩
          · omega
        · split at e <;> omega
  · rintro ⟨h1, h2⟩
    have hs : tkS tb z i < z := by
      rcases Nat.lt_or_ge (tkS tb z i) z with g | g
      · exact g
      · exfalso
        have : tkE tb z i = tkS tb z i := by unfold tkE tkN; rw [if_pos g]
        omega
    unfold tz
    rw [if_neg (by omega), if_neg (by omega), if_pos h2, if_pos h1]
theorem nz_num (h : isDg tb (tkS tb z i) (tkE tb z i)) (hi : i ≤ z) : nz tb z i = dgV tb z i := by
  have hs : tkS tb z i < z := by
    rcases Nat.lt_or_ge (tkS tb z i) z with g | g
    · exact g
    · exfalso
      have : tkE tb z i = tkS tb z i := by unfold tkE tkN; rw [if_pos g]
      have := h.1; omega
  unfold nz dgV
  rw [if_neg (by omega), if_pos h.2, show tkE tb z i - 1 = tkS tb z i from by have := h.1; omega]
theorem tz_let (hi : i ≤ z) : (1 ≤ tz tb z i ∧ tz tb z i ≤ 6) ↔ isLt tb z i := by
  have he := tkN_spec tb (tkS_spec tb hi).2
  unfold isLt
  constructor
  · rintro ⟨e1, e2⟩
    unfold tz at e1 e2
    split at e1
    · omega
    · rename_i h
      rw [if_neg h] at e2
      split at e1
      · rename_i hk
        rw [if_pos hk] at e2
        split at e1
        · rename_i h9
          rw [if_pos h9] at e2
          have hl := tk_letters hi (by omega) hk
          have hs := he.2.2 (by omega)
          obtain ⟨n, en⟩ : ∃ n, tkE tb z i - tkS tb z i = n + 1 := ⟨tkE tb z i - tkS tb z i - 1, by unfold tkE at *; omega⟩
          rw [en] at e1 e2 hl ⊢
          have h0 := hl 0 (by omega)
          cases n with
          | zero =>
            have : wvN tb (tkS tb z i) (0 + 1) = 27 * 0 + (tb (tkS tb z i + 0) - 96) := rfl
            rw [this] at e2
            rw [Nat.add_zero] at h0 e2
            exact ⟨rfl, h0.1, by omega⟩
          | succ n =>
            have hb := (wvN_b (n + 1) (fun j hj => hl j (by omega))).1
            have hn := hl (n + 1) (by omega)
            have : wvN tb (tkS tb z i) (n + 1 + 1) = 27 * wvN tb (tkS tb z i) (n + 1) + (tb (tkS tb z i + (n + 1)) - 96) := rfl
            omega
        · omega
      · split at e1
        · split at e1 <;> omega
        · split at e1 <;> omega
  · rintro ⟨h1, h2, h3⟩
    have hs : tkS tb z i < z := by
      rcases Nat.lt_or_ge (tkS tb z i) z with g | g
      · exact g
      · exfalso
        have : tkE tb z i = tkS tb z i := by unfold tkE tkN; rw [if_pos g]
        omega
    have hk : kd (tb (tkS tb z i)) = 1 := kd1.2 ⟨h2, by omega⟩
    have : wvN tb (tkS tb z i) 1 = tb (tkS tb z i) - 96 := by
      show 27 * 0 + (tb (tkS tb z i + 0) - 96) = _
      rw [Nat.add_zero]; omega
    unfold tz
    rw [if_neg (by omega), if_pos hk, if_pos (by omega), h1, this]
    omega
theorem tz_let_v (h : isLt tb z i) (hi : i ≤ z) : tz tb z i = ((tb (tkS tb z i) - 96 : Nat) : Int) := by
  obtain ⟨h1, h2, h3⟩ := h
  have hs : tkS tb z i < z := by
    rcases Nat.lt_or_ge (tkS tb z i) z with g | g
    · exact g
    · exfalso
      have : tkE tb z i = tkS tb z i := by unfold tkE tkN; rw [if_pos g]
      omega
  have hk : kd (tb (tkS tb z i)) = 1 := kd1.2 ⟨h2, by omega⟩
  have : wvN tb (tkS tb z i) 1 = tb (tkS tb z i) - 96 := by
    show 27 * 0 + (tb (tkS tb z i + 0) - 96) = _
    rw [Nat.add_zero]; omega
  unfold tz
  rw [if_neg (by omega), if_pos hk, if_pos (by omega), h1, this]
/-- a word's number, its letters from the last one on -/
def wrev : List Nat → Nat
  | [] => 0
  | d :: r => 27 * wrev r + d
theorem wvN_rev {s : Nat} : ∀ (r : List Nat) (n : Nat), (∀ j, j < n → 97 ≤ tb (s + j) ∧ tb (s + j) ≤ 122) → (∀ d, d ∈ r → 1 ≤ d ∧ d ≤ 26) → (wvN tb s n = wrev r ↔ n = r.length ∧ ∀ j, j < r.length → tb (s + j) = r.getD (r.length - 1 - j) 0 + 96)
  | [], n, h, _ => by
    have := wvN_b n h
    show wvN tb s n = 0 ↔ n = 0 ∧ _
    constructor
    · intro e; exact ⟨by omega, fun j hj => absurd hj (by simp)⟩
    · rintro ⟨e, _⟩; rw [e]; rfl
  | d :: r, n, h, hd => by
    have d0 := hd d List.mem_cons_self
    show wvN tb s n = 27 * wrev r + d ↔ _
    rw [wvN_s h d0.1 d0.2]
    constructor
    · rintro ⟨m, e, e1, e2⟩
      obtain ⟨f1, f2⟩ := (wvN_rev r m (fun j hj => h j (by omega)) (fun d hd' => hd d (List.mem_cons_of_mem _ hd'))).1 e1
      refine ⟨by simp only [List.length_cons]; omega, fun j hj => ?_⟩
      simp only [List.length_cons] at hj ⊢
      by_cases g : j = r.length
      · rw [g, show r.length + 1 - 1 - r.length = 0 from by omega, ← f1, e2]; rfl
      · rw [show r.length + 1 - 1 - j = (r.length - 1 - j) + 1 from by omega, List.getD_cons_succ]
        exact f2 j (by omega)
    · rintro ⟨e, e1⟩
      simp only [List.length_cons] at e e1
      refine ⟨r.length, e, (wvN_rev r r.length (fun j hj => h j (by omega)) (fun d hd' => hd d (List.mem_cons_of_mem _ hd'))).2 ⟨rfl, fun j hj => ?_⟩, ?_⟩
      · have := e1 j (by omega)
        rwa [show r.length + 1 - 1 - j = (r.length - 1 - j) + 1 from by omega, List.getD_cons_succ] at this
      · have := e1 r.length (by omega)
        rwa [show r.length + 1 - 1 - r.length = 0 from by omega] at this
theorem tz_wd (hi : i ≤ z) {r wd : List Nat} (hr : ∀ d, d ∈ r → 1 ≤ d ∧ d ≤ 26) (hl : r.length = wd.length) (h1 : 1 ≤ wd.length) (h9 : wd.length ≤ 9) (hw : ∀ j, j < wd.length → wd.getD j 0 = r.getD (r.length - 1 - j) 0 + 96) (h97 : 97 ≤ wd.getD 0 0 ∧ wd.getD 0 0 ≤ 122) : tz tb z i = (wrev r : Int) ↔ isWi tb z i wd := by
  have he := tkN_spec tb (tkS_spec tb hi).2
  unfold isWi isWd
  constructor
  · intro e
    unfold tz at e
    split at e
    · omega
    · rename_i h
      split at e
      · rename_i hk
        split at e
        · have e : wvN tb (tkS tb z i) (tkE tb z i - tkS tb z i) = wrev r := by omega
          obtain ⟨f1, f2⟩ := (wvN_rev r _ (tk_letters hi (by omega) hk) hr).1 e
          exact ⟨by omega, fun j hj => by rw [f2 j (by omega), hw j hj]⟩
        · omega
      · split at e
        · split at e <;> omega
        · split at e <;> omega
  · rintro ⟨g1, g2⟩
    have hs : tkS tb z i < z := by
      rcases Nat.lt_or_ge (tkS tb z i) z with g | g
      · exact g
      · exfalso
        have : tkE tb z i = tkS tb z i := by unfold tkE tkN; rw [if_pos g]
        omega
    have hk : kd (tb (tkS tb z i)) = 1 := by
      have := g2 0 (by omega)
      rw [Nat.add_zero] at this
      rw [this]; exact kd1.2 h97
    unfold tz
    rw [if_neg (by omega), if_pos hk, if_pos (by omega)]
    have := (wvN_rev r _ (tk_letters hi hs hk) hr).2 ⟨by omega, fun j hj => by rw [g2 j (by omega), hw j (by omega)]⟩
    omega
end
