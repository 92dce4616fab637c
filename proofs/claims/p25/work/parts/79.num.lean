theorem lN_ti63 {a : Nat} (h : a < 9223372036854775808) : (lN a).toInt = (a : Int) := Int64.toInt_ofNat_of_lt (by omega)
theorem q_divL {a : Nat} (h : a < 9223372036854775808) : lN a / (1000000007 : Int64) = lN (a / 1000000007) := by
  apply Int64.toInt_inj.1
  have e := lN_ti63 h
  have e2 := lN_ti63 (a := 1000000007) (by omega)
  have e3 := lN_ti63 (a := a / 1000000007) (by omega)
  rw [show (1000000007 : Int64) = lN 1000000007 from rfl, Int64.toInt_div, e, e2, e3]
  rw [show ((a : Int).tdiv ((1000000007 : Nat) : Int)) = ((a / 1000000007 : Nat) : Int) from rfl]
  rw [Int.bmod_eq_of_le (by omega) (by omega)]
theorem q_modL {a : Nat} (h : a < 9223372036854775808) : lN a - lN a / (1000000007 : Int64) * (1000000007 : Int64) = lN (a % 1000000007) := by
  rw [q_divL h, show (1000000007 : Int64) = lN 1000000007 from rfl, lN_mul, lN_sub (by omega)]
  congr 1; omega
def bW (x i : Nat) : Nat := if x.testBit i then 1 else 0
theorem bW_lt (x i : Nat) : bW x i < 2 := by unfold bW; split <;> omega
theorem bW_0 (i : Nat) : bW 0 i = 0 := by unfold bW; simp
theorem q_bW : ∀ x, x < 512 → ∀ i, i < 9 → (nI x >>> (nI i &&& 31)) &&& 1 = nI (bW x i) := by decide +kernel
theorem bW_rw3 : ∀ x, x < 512 → ∀ p, p < 3 → ∀ b, b < 3 → (nI (rw3 x p) >>> (nI b &&& 31)) &&& 1 = nI (bW x (3 * p + b)) := by decide +kernel
theorem q_i64 {a : Nat} (h : a < 2147483648) : (nI a).toInt64 = lN a := by rw [nI_l (by omega), lN_iL (by omega)]
theorem q_di3 : ∀ i, i < 27 → nI i / 3 = nI (i / 3) ∧ nI i / 9 = nI (i / 9) ∧ nI i - nI i / 3 * 3 = nI (i % 3) ∧ nI i - nI i / 9 * 9 = nI (i % 9) ∧ nI i - nI i / 4 * 4 = nI (i % 4) ∧ nI i / 3 * 3 = nI (i / 3 * 3) := by decide +kernel
theorem q_updL {f : Nat → Int64} {k j : Nat} {x : Int64} : vp_updL f k x j = if j = k then x else f j := rfl
def idW (i : Nat) : Nat := if i % 4 = 0 then 1 else 0
def mulR (r f : Nat → Nat) : Nat → Nat := fun q => (r 0 * f q + r 1 * f (3 + q) + r 2 * f (6 + q)) % 1000000007
def mulW (x f : Nat → Nat) : Nat → Nat := fun i => (x (i / 3 * 3) * f (i % 3) + x (i / 3 * 3 + 1) * f (3 + i % 3) + x (i / 3 * 3 + 2) * f (6 + i % 3)) % 1000000007
def wr1 (u v : Nat) (x : Nat → Nat) (i : Nat) : Nat := sumN (fun k => bW u (3 * (i / 3) + k / 3) * bW v (3 * (k % 3) + i % 3) * x k) 9
def wrW (w : Nat → Nat) (a e : Nat) (x : Nat → Nat) : Nat → Nat := fun i => (wr1 (w (3 * a + 1)) (w (3 * e + 1)) x i + wr1 (w (3 * a + 2)) (w (3 * e + 2)) x i) % 1000000007
def opW (w : Nat → Nat) (l : Nat) : Nat → Nat := fun i => bW (w (3 * l + 1)) i + bW (w (3 * l + 2)) i
/-- the runs of a row, as both count them -/
def rns (w : Nat → Nat) (lt : Nat → Nat) : Nat → (Nat → Nat) × (Nat → Nat) × List ((Nat → Nat) × (Nat → Nat) × Nat)
  | 0 => (fun i => if i = 0 then 1 else 0, idW, [])
  | k + 1 =>
    if lt k < 2 then (mulR (rns w lt k).1 (opW w (lt k)), idW, ((rns w lt k).1, (rns w lt k).2.1, lt k) :: (rns w lt k).2.2)
    else if lt k < 4 then (mulR (rns w lt k).1 (bW (w (3 * lt k + 1))), mulW (rns w lt k).2.1 (bW (w (3 * lt k + 1))), (rns w lt k).2.2)
    else match (rns w lt k).2.2 with
      | [] => (mulR (rns w lt k).1 (bW (w (3 * lt k))), idW, [])
      | a :: t => (mulR a.1 (wrW w a.2.2 (lt k) (rns w lt k).2.1), mulW a.2.1 (wrW w a.2.2 (lt k) (rns w lt k).2.1), t)
def crA (w : Nat → Nat) (lt : Nat → Nat) (k : Nat) : Nat → Nat := (rns w lt k).1
def srA (w : Nat → Nat) (lt : Nat → Nat) (k : Nat) : Nat → Nat := (rns w lt k).2.1
theorem rns_stk (w : Nat → Nat) (lt : Nat → Nat) : ∀ k, (rns w lt k).2.2 = (stk lt k).map (fun o => (crA w lt o, srA w lt o, lt o))
  | 0 => rfl
  | k + 1 => by
    have ih := rns_stk w lt k
    unfold rns stk
    by_cases h2 : lt k < 2
    · rw [if_pos h2, if_pos h2]
      simp only [List.map_cons]
      rw [ih]; rfl
    · rw [if_neg h2, if_neg h2]
      by_cases h4 : lt k < 4
      · rw [if_pos h4, if_pos h4]; exact ih
      · rw [if_neg h4, if_neg h4]
        cases e : stk lt k with
        | nil => rw [e] at ih; simp only [List.map_nil] at ih; rw [ih]; rfl
        | cons o r => rw [e] at ih; simp only [List.map_cons] at ih; rw [ih]; rfl
theorem crA_open {w lt : Nat → Nat} {k : Nat} (h : lt k < 2) : crA w lt (k + 1) = mulR (crA w lt k) (opW w (lt k)) ∧ srA w lt (k + 1) = idW := by
  unfold crA srA
  rw [rns, if_pos h]; exact ⟨rfl, rfl⟩
theorem crA_plain {w lt : Nat → Nat} {k : Nat} (h : 2 ≤ lt k) (h4 : lt k < 4) : crA w lt (k + 1) = mulR (crA w lt k) (bW (w (3 * lt k + 1))) ∧ srA w lt (k + 1) = mulW (srA w lt k) (bW (w (3 * lt k + 1))) := by
  unfold crA srA
  rw [rns, if_neg (by omega), if_pos h4]; exact ⟨rfl, rfl⟩
theorem crA_free {w lt : Nat → Nat} {k : Nat} (h4 : 4 ≤ lt k) (e : stk lt k = []) : crA w lt (k + 1) = mulR (crA w lt k) (bW (w (3 * lt k))) ∧ srA w lt (k + 1) = idW := by
  have ih := rns_stk w lt k
  rw [e] at ih
  unfold crA srA
  rw [rns, if_neg (by omega), if_neg (by omega), ih]; exact ⟨rfl, rfl⟩
theorem crA_close {w lt : Nat → Nat} {k o : Nat} {r : List Nat} (h4 : 4 ≤ lt k) (e : stk lt k = o :: r) : crA w lt (k + 1) = mulR (crA w lt o) (wrW w (lt o) (lt k) (srA w lt k)) ∧ srA w lt (k + 1) = mulW (srA w lt o) (wrW w (lt o) (lt k) (srA w lt k)) := by
  have ih := rns_stk w lt k
  rw [e] at ih
  have h : rns w lt (k + 1) = (mulR (crA w lt o) (wrW w (lt o) (lt k) (srA w lt k)), mulW (srA w lt o) (wrW w (lt o) (lt k) (srA w lt k)), r.map (fun o => (crA w lt o, srA w lt o, lt o))) := by
    rw [rns, if_neg (by omega), if_neg (by omega), ih]; rfl
  exact ⟨congrArg (fun s => s.1) h, congrArg (fun s => s.2.1) h⟩
theorem idW_lt (i : Nat) : idW i < 1000000007 := by unfold idW; split <;> omega
theorem mulR_lt (r f : Nat → Nat) (i : Nat) : mulR r f i < 1000000007 := Nat.mod_lt _ (by omega)
theorem mulW_lt (r f : Nat → Nat) (i : Nat) : mulW r f i < 1000000007 := Nat.mod_lt _ (by omega)
theorem wrW_lt (w : Nat → Nat) (a e : Nat) (x : Nat → Nat) (i : Nat) : wrW w a e x i < 1000000007 := Nat.mod_lt _ (by omega)
theorem opW_lt (w : Nat → Nat) (l : Nat) (i : Nat) : opW w l i < 1000000007 := by
  unfold opW
  have := bW_lt (w (3 * l + 1)) i
  have := bW_lt (w (3 * l + 2)) i
  omega
theorem csr_lt (w lt : Nat → Nat) : ∀ k i, crA w lt k i < 1000000007 ∧ srA w lt k i < 1000000007
  | 0, i => ⟨by show (if i = 0 then 1 else 0) < 1000000007; split <;> omega, idW_lt i⟩
  | k + 1, i => by
    by_cases h2 : lt k < 2
    · rw [(crA_open h2).1, (crA_open h2).2]; exact ⟨mulR_lt _ _ _, idW_lt _⟩
    · by_cases h4 : lt k < 4
      · rw [(crA_plain (by omega) h4).1, (crA_plain (by omega) h4).2]; exact ⟨mulR_lt _ _ _, mulW_lt _ _ _⟩
      · cases e : stk lt k with
        | nil => rw [(crA_free (by omega) e).1, (crA_free (by omega) e).2]; exact ⟨mulR_lt _ _ _, idW_lt _⟩
        | cons o r => rw [(crA_close (by omega) e).1, (crA_close (by omega) e).2]; exact ⟨mulR_lt _ _ _, mulW_lt _ _ _⟩
