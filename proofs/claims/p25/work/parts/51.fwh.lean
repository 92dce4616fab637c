theorem q_meetWhole {wh n x : Nat} {xs : Nat → Nat} {wo wl : Nat → Int32} {p1 sp : Int32} (hn : n ≤ 60) (hx : ph wh x < 2147483648) (hxs : ∀ i, i < n → wo i = nI (ph wh (xs i)) ∧ ph wh (xs i) < 2147483648) {K : Int32 → Int32 → Int32 → (Nat → Int32) → (Nat → Int32) → Prop}
    (h1 : ∀ i, i < n → xs i = x → wl i ≤ p1 → K (nI 0) sp (nI n) wo wl)
    (h2 : ∀ i, i < n → xs i = x → ¬ wl i ≤ p1 → K (nI 1) sp (nI n) wo (upd wl i p1))
    (h3 : (∀ i, i < n → xs i ≠ x) → n = 60 → K (nI 0) (nI 1) (nI n) wo wl)
    (h4 : (∀ i, i < n → xs i ≠ x) → n < 60 → K (nI 1) sp (nI (n + 1)) (upd wo n (nI (ph wh x))) (upd wl n p1)) : wX12_meetWhole (nI (ph wh x)) p1 sp (nI n) wo wl K := by
  unfold wX12_meetWhole wX12_meetWhole_L2
  intro P hP
  refine q_cnt0 (Q := fun k => (∀ i, i < k → xs i ≠ x) → P (nI k) wl) n ?_ ?_ (fun i hi => by omega)
  · intro hno
    refine hP _ _ ?_
    simp (disch := omega) only [q_lit, nI_add, pk_mul, q_a1, q_a3, q_a7, q_a31, q_a63, q_a255, q_a511, q_or, q_shr, q_shl, q_le, q_lt, q_eq, q_in, q_cl, q_neg, q_neg', q_nlt0, q_nle, q_nlt, q_nle', q_nlt', forall_eq, true_implies, false_implies, not_true_eq_false, not_false_eq_true, and_true, true_and, Nat.reduceMod, Nat.reducePow, Nat.reduceAdd, Nat.reduceMul, Nat.reduceDiv, Nat.reduceSub, Nat.reduceEqDiff, Nat.reduceLeDiff, Nat.reduceLT, Nat.le_refl]
    refine ⟨fun g => h3 hno g, fun g => ⟨by omega, by omega, h4 hno (by omega)⟩⟩
  · intro k hk ih hno
    refine hP _ _ ?_
    obtain ⟨e1, e2⟩ := hxs k hk
    rw [q_cl (show k < 2147483648 by omega), e1]
    have uu : upd wl k (wl k) = wl := by
      funext j; unfold upd; split
      · rename_i e; rw [e]
      · rfl
    simp (disch := omega) only [q_lit, nI_add, pk_mul, q_a1, q_a3, q_a7, q_a31, q_a63, q_a255, q_a511, q_or, q_shr, q_shl, q_le, q_lt, q_eq, q_in, q_cl, q_neg, q_neg', q_nlt0, q_nle, q_nlt, q_nle', q_nlt', forall_eq, true_implies, false_implies, not_true_eq_false, not_false_eq_true, and_true, true_and, Nat.reduceMod, Nat.reducePow, Nat.reduceAdd, Nat.reduceMul, Nat.reduceDiv, Nat.reduceSub, Nat.reduceEqDiff, Nat.reduceLeDiff, Nat.reduceLT, uu]
    refine ⟨fun g => absurd g (by omega), fun _ => ⟨by omega, fun g => ?_, fun g => ih fun i hi => ?_⟩⟩
    · have g := ph_inj g
      exact ⟨by omega, fun g2 => ⟨by omega, by omega, h1 k hk g g2⟩, fun g2 => ⟨by omega, h2 k hk g g2⟩⟩
    · by_cases e : i = k
      · subst e; exact fun e => g (by rw [e])
      · exact hno i (by omega)
def vI (v : Int32) : Nat := (v.toInt + 2147483648).toNat
theorem vI_lt (v : Int32) : vI v < 4294967296 := by
  have h1 := Int32.toInt_lt v
  have h2 := Int32.le_toInt v
  unfold vI; omega
theorem vI_mono {v u : Int32} (h : ¬ v ≤ u) : vI u < vI v := by
  rw [Int32.le_iff_toInt_le] at h
  have h2 := Int32.le_toInt u
  unfold vI; omega
theorem sumN_upd {f g : Nat → Nat} {i : Nat} (hg : ∀ j, j ≠ i → g j = f j) (hi : g i < f i) : ∀ n, i < n → sumN g n < sumN f n
  | 0, h => by omega
  | n + 1, h => by
    have eq : ∀ m, m ≤ i → sumN g m = sumN f m := by
      intro m
      induction m with
      | zero => intro _; rfl
      | succ m ih => intro hm; show sumN g m + g m = sumN f m + f m; rw [ih (by omega), hg m (by omega)]
    show sumN g n + g n < sumN f n + f n
    by_cases e : i = n
    · subst e; rw [eq i (Nat.le_refl _)]; omega
    · have := sumN_upd hg hi n (by omega)
      rw [hg n (fun e' => e e'.symm)]; omega
theorem sumN_congr {f g : Nat → Nat} : ∀ n, (∀ j, j < n → g j = f j) → sumN g n = sumN f n
  | 0, _ => rfl
  | n + 1, h => by show sumN g n + g n = sumN f n + f n; rw [sumN_congr n (fun j hj => h j (by omega)), h n (by omega)]
/-- what falls at each finding: a new one, or a shorter length -/
def mu (M n : Nat) (wl : Nat → Int32) : Nat := (M - n) * 1099511627776 + sumN (fun i => vI (wl i)) n
theorem mu_low {M n i : Nat} {wl : Nat → Int32} {p : Int32} (hi : i < n) (h : ¬ wl i ≤ p) : mu M n (upd wl i p) < mu M n wl := by
  have := sumN_upd (f := fun i => vI (wl i)) (g := fun j => vI (upd wl i p j)) (i := i) (fun j hj => by show vI (upd wl i p j) = _; rw [q_un hj]) (by show vI (upd wl i p i) < _; rw [q_us]; exact vI_mono h) n hi
  unfold mu; omega
theorem mu_new {M n : Nat} {wl : Nat → Int32} {p : Int32} (hn : n < M) : mu M (n + 1) (upd wl n p) < mu M n wl := by
  have h1 : sumN (fun i => vI (upd wl n p i)) (n + 1) = sumN (fun i => vI (wl i)) n + vI p := by
    show sumN (fun i => vI (upd wl n p i)) n + vI (upd wl n p n) = _
    rw [q_us, sumN_congr n (fun j hj => by show vI (upd wl n p j) = vI (wl j); rw [q_un (by omega)])]
  have := vI_lt p
  unfold mu
  rw [h1]
  have : (M - n) * 1099511627776 = (M - (n + 1)) * 1099511627776 + 1099511627776 := by
    rw [show M - n = (M - (n + 1)) + 1 from by omega, Nat.add_mul, Nat.one_mul]
  omega
/-- the reference's wholes so far -/
def WM (y : Sy) (wh n : Nat) (xs : Nat → Nat) (wo : Nat → Int32) : Prop := 1 ≤ n ∧ n ≤ 60 ∧ xs 0 = sE y ∧ (∀ i, i < n → wo i = nI (ph wh (xs i)) ∧ WS y (xs i)) ∧ ∀ i j, i < n → j < n → xs i = xs j → i = j
/-- a sweep: nothing has come yet, and C of what was looked at; or something has come -/
def SW (y : Sy) (wh b0 : Nat) (C : Nat → (Nat → Nat) → Prop) (mo sp : Int32) (n : Nat) (xs : Nat → Nat) (wo wl : Nat → Int32) : Prop :=
  WM y wh n xs wo ∧ SpB y sp ∧ ((mo = nI 0 ∧ mu 60 n wl = b0 ∧ (sp = nI 0 → C n xs)) ∨ (mo = nI 1 ∧ mu 60 n wl < b0))
section
variable {y : Sy} {wh n0 m0 t0 n1 m1 t1 : Nat} {w0 w1 : Nat → Nat} {st mk tk pu go cl : Nat → Int32}
theorem WM_lt (hw : wh < 3) (hy : y = syM wh n0 w0 n1 w1) (hok : SyOk y) {n : Nat} {xs : Nat → Nat} {wo : Nat → Int32} (W : WM y wh n xs wo) {i : Nat} (hi : i < n) : ph wh (xs i) < 262144 := ph_lt hw hy (WS_R2 hok (W.2.2.2.1 i hi).2)
theorem m_sweep1 (hw : wh < 3) (hy : y = syM wh n0 w0 n1 w1) (hok : SyOk y) {b0 : Nat} {C : Nat → (Nat → Nat) → Prop} {mo sp : Int32} {n : Nat} {xs : Nat → Nat} {wo wl : Nat → Int32} (S : SW y wh b0 C mo sp n xs wo wl) {p : Nat} (hp : WS y p) {len : Int32} {K : Int32 → Int32 → Int32 → (Nat → Int32) → (Nat → Int32) → Prop}
    (h : ∀ mo' sp' n' xs' wo' wl', SW y wh b0 (fun m zs => C m zs ∧ m = n ∧ zs = xs ∧ ∃ i, i < n ∧ xs i = p) mo' sp' n' xs' wo' wl' → n ≤ n' → Ext n xs xs' → K mo' sp' (nI n') wo' wl') :
    wX12_meetWhole (nI (ph wh p)) len sp (nI n) wo wl (fun r u v w z => ((r = (0 : Int32) → ((mo = (0 : Int32) → K (0 : Int32) u v w z) ∧ (¬ mo = (0 : Int32) → K (1 : Int32) u v w z))) ∧ (¬ r = (0 : Int32) → K (1 : Int32) u v w z))) := by
  obtain ⟨W, hsp, hm⟩ := S
  obtain ⟨a1, a2, a3, a4, a5⟩ := id W
  have pl := ph_lt hw hy (WS_R2 hok hp)
  have new1 : ∀ sp', SpB y sp' → (sp' = nI 0 → sp = nI 0) → (sp' = nI 0 → ∃ i, i < n ∧ xs i = p) → ((mo = (0 : Int32) → K (0 : Int32) sp' (nI n) wo wl) ∧ (¬ mo = (0 : Int32) → K (1 : Int32) sp' (nI n) wo wl)) := by
    intro sp' hsp' hss hi
    refine ⟨fun g => h _ _ n xs _ _ ⟨W, hsp', ?_⟩ (Nat.le_refl _) (Ext_refl _ _), fun g => h _ _ n xs _ _ ⟨W, hsp', ?_⟩ (Nat.le_refl _) (Ext_refl _ _)⟩
    · rcases hm with ⟨_, h2, h3⟩ | ⟨h1, _⟩
      · exact .inl ⟨rfl, h2, fun e => ⟨h3 (hss e), rfl, rfl, hi e⟩⟩
      · rw [h1] at g; exact absurd g (by decide)
    · rcases hm with ⟨h1, _⟩ | ⟨_, h2⟩
      · exact absurd h1 g
      · exact .inr ⟨rfl, h2⟩
  have b0le : mu 60 n wl ≤ b0 := by rcases hm with ⟨_, h2, _⟩ | ⟨_, h2⟩ <;> omega
  refine q_meetWhole a2 (by omega) (fun i hi => ⟨(a4 i hi).1, by have := WM_lt hw hy hok W hi; omega⟩) (fun i hi e _ => ?_) (fun i hi e hl => ?_) (fun hno e60 => ?_) (fun hno l60 => ?_)
  · exact ⟨fun _ => new1 sp hsp id (fun _ => ⟨i, hi, e⟩), fun g => absurd rfl g⟩
  · refine ⟨fun g => absurd g (by decide), fun _ => h _ _ n xs _ _ ⟨W, hsp, .inr ⟨rfl, ?_⟩⟩ (Nat.le_refl _) (Ext_refl _ _)⟩
    have := mu_low (M := 60) hi hl
    omega
  · refine ⟨fun _ => new1 (nI 1) (.inr ⟨rfl, fun i => if i = 60 then p else xs i, fun i hi => ?_, fun i j hi hj e => ?_⟩) (fun g => absurd g (by decide)) (fun g => absurd g (by decide)), fun g => absurd rfl g⟩
    · show WS y (if i = 60 then p else xs i)
      split
      · exact hp
      · exact (a4 i (by omega)).2
    · have e : (if i = 60 then p else xs i) = (if j = 60 then p else xs j) := e
      split at e <;> split at e
      · omega
      · exact absurd e.symm (hno j (by omega))
      · exact absurd e (hno i (by omega))
      · exact a5 i j (by omega) (by omega) e
  · refine ⟨fun g => absurd g (by decide), fun _ => h _ _ (n + 1) (updN xs n p) _ _ ⟨⟨by omega, by omega, by rw [updN_n (by omega)]; exact a3, fun i hi => ?_, fun i j hi hj e => ?_⟩, hsp, .inr ⟨rfl, ?_⟩⟩ (by omega) (fun i hi => updN_n (by omega))⟩
    · rw [q_ap]; unfold updN
      split
      · exact ⟨rfl, hp⟩
      · exact a4 i (by omega)
    · unfold updN at e
      split at e <;> split at e
      · omega
      · exact absurd e.symm (hno j (by omega))
      · exact absurd e (hno i (by omega))
      · exact a5 i j (by omega) (by omega) e
    · have := mu_new (M := 60) (wl := wl) (p := len) l60
      omega
end
