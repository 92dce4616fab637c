/-- the place in a line of a given width of what has this value -/
noncomputable def whW {α : Type} (wd sz : Nat) (pr : Nat → α) (n : Nat) (v : α) (q : Nat) : Nat := ind (∃ k, k < sz ∧ q = wd * n + k ∧ pr k = v)
theorem wd_eq {wd n l k j : Nat} (hk : k < wd) (hj : j < wd) (e : wd * l + k = wd * n + j) : l = n ∧ k = j := by
  have e1 : (wd * l + k) / wd = (wd * n + j) / wd := by rw [e]
  rw [Nat.mul_add_div (by omega), Nat.mul_add_div (by omega), Nat.div_eq_of_lt hk, Nat.div_eq_of_lt hj] at e1
  have e2 : l = n := by omega
  subst e2
  exact ⟨rfl, by omega⟩
theorem whW_at {α : Type} {wd sz : Nat} {pr : Nat → α} (hi : ∀ i j, i < sz → j < sz → pr i = pr j → i = j) (hz : sz ≤ wd) {n k : Nat} {v : α} (hk : k < sz) : whW wd sz pr n v (wd * n + k) = ind (v = pr k) := by
  unfold whW
  refine ind_congr ⟨fun ⟨j, hj, e, ev⟩ => ?_, fun e => ⟨k, hk, rfl, e.symm⟩⟩
  rw [(wd_eq (by omega) (by omega) e).2, ev]
theorem whW_off {α : Type} {wd sz : Nat} {pr : Nat → α} (hz : sz ≤ wd) {n l k : Nat} {v : α} (hk : k < wd) (hl : l ≠ n) : whW wd sz pr n v (wd * l + k) = 0 := by
  unfold whW
  exact ind_f (fun ⟨j, hj, e, ev⟩ => hl (wd_eq hk (by omega) e).1)
theorem whW_eq {α : Type} {wd sz : Nat} {pr : Nat → α} (hi : ∀ i j, i < sz → j < sz → pr i = pr j → i = j) {n k : Nat} {v : α} (hk : k < sz) (e : pr k = v) (q : Nat) : ind (q = wd * n + k) = whW wd sz pr n v q := by
  unfold whW
  refine ind_congr ⟨fun g => ⟨k, hk, g, e⟩, fun ⟨j, hj, g, ev⟩ => ?_⟩
  rw [g, hi j k hj hk (by rw [ev, e])]
theorem Acc_upd {N i m M : Nat} (hm : m < 4611686018427387904) (e : m % 1000000007 = M % 1000000007) (A : Nat → Int64) : Acc N (fun q => ind (q = i) * M) A (vp_updL A i (A i + lN m - (A i + lN m) / (1000000007 : Int64) * (1000000007 : Int64))) := fun q x hq hx => by
  show vp_updL A i _ q = lN ((x + ind (q = i) * M) % 1000000007)
  rw [q_apL]
  by_cases g : q = i
  · subst g
    rw [if_pos rfl, ind_t rfl, Nat.one_mul, hx, lN_addL, q_modL (by omega)]
    congr 1
    omega
  · rw [if_neg g, ind_f g, Nat.zero_mul, Nat.add_zero]; exact hx
theorem Acc_all {N : Nat} {D : Nat → Nat} {A A' : Nat → Int64} (h : Acc N D A A') {q x y : Nat} (hq : q < N) (hx : A q = lN (x % 1000000007)) (e : (x + D q) % 1000000007 = y % 1000000007) : A' q = lN (y % 1000000007) := by
  rw [h q x hq hx, e]
section
variable {wh n0 m0 t0 n1 m1 t1 : Nat} {w0 w1 : Nat → Nat} {st mk tk pu go cl : Nat → Int32} {y : Sy}
theorem m_wholeOf (hw : wh < 3) (hy : y = syM wh n0 w0 n1 w1) {wn : Nat} {xs : Nat → Nat} {wo : Nat → Int32} (WW : WM y wh wn xs wo) (hok : SyOk y) {x k : Nat} (hk : k < wn) (ex : xs k = x) {K : Int32 → Prop} (h : K (nI k)) : wX12_wholeOf (nI (ph wh x)) (nI wn) wo K := by
  obtain ⟨h1, h60, h0, hW, hi⟩ := WW
  unfold wX12_wholeOf wX12_wholeOf_L4
  intro P hP
  refine q_cnt0 (Q := fun i => P (nI (if k < i then k else 0)) (nI i)) wn ?_ ?_
  · refine hP _ _ ⟨fun _ => by rw [if_pos hk]; exact h, fun g => absurd ((q_le (by omega) (by omega)).2 (Nat.le_refl wn)) g⟩
  · intro i hi' ih
    refine hP _ _ ⟨fun g => absurd ((q_le (by omega) (by omega)).1 g) (by omega), fun _ => ?_⟩
    have b1 := ph_lt hw hy (WS_R2 hok (hW i hi').2)
    have b2 : ph wh x < 262144 := by rw [← ex]; exact ph_lt hw hy (WS_R2 hok (hW k hk).2)
    rw [q_in (by omega), q_cl (by omega), (hW i hi').1, q_eq (by omega) (by omega)]
    refine ⟨by omega, fun g x4 e4 => ?_, fun g x3 e3 => ?_⟩
    · have e : i = k := hi i k hi' hk (by rw [ex]; exact ph_inj g)
      rw [e4, nI_1]
      rw [if_pos (by omega)] at ih
      rw [e] at ih ⊢; exact ih
    · have e : i ≠ k := fun e => g (by rw [e, ex])
      rw [e3, nI_1]
      by_cases g2 : k < i
      · rw [if_pos g2]; rw [if_pos (by omega)] at ih; exact ih
      · rw [if_neg g2]; rw [if_neg (by omega)] at ih; exact ih
/-- the reference's lines of wholes -/
def RLn (y : Sy) (wn : Nat) (xs : Nat → Nat) (L : Nat) (wm : Nat → Int64) : Prop := (∀ l, l ≤ L → ∀ k, k < wn → wm (64 * l + k) = lN (wcn y l (xs k) % 1000000007)) ∧ ∀ l k, L < l → l < 13 → k < 64 → wm (64 * l + k) = lN (0 % 1000000007)
theorem m_countBlocks (hw : wh < 3) (hy : y = syM wh n0 w0 n1 w1) (hok : SyOk y) (M : MdOk n0 m0 t0 w0 n1 m1 t1 w1 st mk tk pu go cl) {wn : Nat} {xs : Nat → Nat} {wo : Nat → Int32} (WW : WM y wh wn xs wo) (WE : Enum (WS y) xs wn) {L N : Nat} (hL : L < N) (hN : N ≤ 12) {wm : Nat → Int64} (R : ∀ l, l ≤ L → ∀ k, k < wn → wm (64 * l + k) = lN (wcn y l (xs k) % 1000000007)) {K : (Nat → Int64) → Prop}
    (h : ∀ wm', Acc 832 (fun q => sumN (fun l => sumN (fun o => sumN (fun v => sumN (fun k => whW 64 wn xs (L + 1) (thn (xs k) (sB y (v / 2) (4 + v % 2) (xs o))) q * (wcn y (L - 1 - l) (xs k) * wcn y l (xs o))) wn) 4) wn) L) wm wm' → K wm') :
    wX12_countBlocks (nI wh) (nI (L + 1)) (nI N) (nI wn) mk pu cl wo wm K := by
  obtain ⟨h1, h60, h0, hW, hi⟩ := id WW
  let D : Nat → Nat → Nat → Nat → Nat → Nat := fun l o v k q => whW 64 wn xs (L + 1) (thn (xs k) (sB y (v / 2) (4 + v % 2) (xs o))) q * (wcn y (L - 1 - l) (xs k) * wcn y l (xs o))
  have off : ∀ l o v k, ∀ l' k', l' < L + 1 → k' < 64 → D l o v k (64 * l' + k') = 0 := fun l o v k l' k' h1 h2 => by
    show whW 64 wn xs (L + 1) _ (64 * l' + k') * _ = 0
    rw [whW_off (by omega) h2 (by omega), Nat.zero_mul]
  have mB : ∀ {a e x : Nat} {K : Int32 → Prop}, a < 2 → 4 ≤ e → e < 6 → R2 y x → K (nI (ph wh (sB y a e x))) → wX12_block (nI wh) (nI a) (nI (ph wh x)) (nI e) mk pu cl K := fun h1 h2 h3 h4 h => by rw [hy] at h h4; exact m_block hw M h1 h2 h3 h4 h
  have mF : ∀ {x z : Nat} {K : Int32 → Prop}, R2 y x → R2 y z → K (nI (ph wh (thn x z))) → wX12_follow (nI (ph wh x)) (nI (ph wh z)) K := fun hx hz h => by rw [hy] at hx hz; exact m_follow (n0 := n0) (w0 := w0) (n1 := n1) (w1 := w1) hw hx hz h
  unfold wX12_countBlocks
  intro E3 hE3
  unfold wX12_countBlocks_L3
  intro P3 hP3
  refine q_cnt0 (Q := fun l => ∀ A, Acc 832 (fun q => sumN (fun l => sumN (fun o => sumN (fun v => sumN (fun k => D l o v k q) wn) 4) wn) l) wm A → P3 (nI l) A) L ?_ ?_ wm (Acc_r _ _)
  · intro A hA
    refine hP3 _ _ ⟨fun _ => hE3 _ _ (h A hA), fun g => absurd (show nI (L + 1) < nI L + 2 from ?_) g⟩
    rw [show (2 : Int32) = nI 2 from rfl, nI_add]
    exact (q_lt (by omega) (by omega)).2 (by omega)
  · intro l hl ihl A hA
    rw [show (nI l : Int32) = nI l from rfl]
    refine hP3 _ _ ⟨fun g => ?_, fun _ => ⟨fun g => absurd ((q_lt (by omega) (by omega)).1 g) (by omega), fun _ => ?_⟩⟩
    · rw [show (2 : Int32) = nI 2 from rfl, nI_add] at g
      exact absurd ((q_lt (by omega) (by omega)).1 g) (by omega)
    intro x3 e3
    rw [show (2 : Int32) = nI 2 from rfl, q_subN (by omega), q_subN (by omega), show L + 1 - 2 - l = L - 1 - l from by omega] at e3
    subst e3
    unfold wX12_countBlocks_L27
    intro P hP
    refine q_cnt0 (Q := fun o => ∀ B, Acc 832 (fun q => sumN (fun o => sumN (fun v => sumN (fun k => D l o v k q) wn) 4) o) A B → P (nI o) B) wn ?_ ?_ A (Acc_r _ _)
    · intro B hB
      refine hP _ _ ⟨fun _ x5 e5 => ?_, fun g => absurd ((q_le (by omega) (by omega)).2 (Nat.le_refl wn)) g⟩
      rw [e5, nI_1]
      exact ihl B (Acc_sum (F := fun l q => sumN (fun o => sumN (fun v => sumN (fun k => D l o v k q) wn) 4) wn) hA hB)
    · intro o ho iho B hB
      refine hP _ _ ⟨fun g => absurd ((q_le (by omega) (by omega)).1 g) (by omega), fun _ => ?_⟩
      intro E hE
      have zA : ∀ l' k', l' < L + 1 → k' < 64 → sumN (fun l => sumN (fun o => sumN (fun v => sumN (fun k => D l o v k (64 * l' + k')) wn) 4) wn) l = 0 := fun l' k' h1 h2 => sumN_0 l (fun a _ => sumN_0 wn (fun b _ => sumN_0 4 (fun c _ => sumN_0 wn (fun d _ => off a b c d l' k' h1 h2))))
      have zB : ∀ l' k', l' < L + 1 → k' < 64 → sumN (fun o => sumN (fun v => sumN (fun k => D l o v k (64 * l' + k')) wn) 4) o = 0 := fun l' k' h1 h2 => sumN_0 o (fun b _ => sumN_0 4 (fun c _ => sumN_0 wn (fun d _ => off l b c d l' k' h1 h2)))
      have zC : ∀ v l' k', l' < L + 1 → k' < 64 → sumN (fun v => sumN (fun k => D l o v k (64 * l' + k')) wn) v = 0 := fun v l' k' h1 h2 => sumN_0 v (fun c _ => sumN_0 wn (fun d _ => off l o c d l' k' h1 h2))
      have rB : ∀ l' k', l' ≤ L → k' < wn → B (64 * l' + k') = lN (wcn y l' (xs k') % 1000000007) := fun l' k' h1 h2 => Acc_0 hB (by omega) (zB l' k' (by omega) (by omega)) (Acc_0 hA (by omega) (zA l' k' (by omega) (by omega)) (R l' h1 k' h2))
      have nxt : ∀ C, Acc 832 (fun q => sumN (fun v => sumN (fun k => D l o v k q) wn) 4) B C → ∀ j, E j C := fun C hC j => hE j C (fun x6 e6 => by
        rw [e6, nI_1]
        exact iho C (Acc_sum (F := fun o q => sumN (fun v => sumN (fun k => D l o v k q) wn) 4) hB hC))
      unfold wX12_countBlocks_L39
      intro S hS
      refine q_cnt0 (Q := fun v => ∀ C, Acc 832 (fun q => sumN (fun v => sumN (fun k => D l o v k q) wn) v) B C → S (nI v) C) 4 ?_ ?_ B (Acc_r _ _)
      · intro C hC
        exact hS _ _ ⟨fun _ => nxt C hC _, fun g => absurd ((q_le (by omega) (by omega)).2 (Nat.le_refl 4)) g⟩
      · intro v hv ihv C hC
        have rC : ∀ l' k', l' ≤ L → k' < wn → C (64 * l' + k') = lN (wcn y l' (xs k') % 1000000007) := fun l' k' h1 h2 => Acc_0 hC (by omega) (zC v l' k' (by omega) (by omega)) (rB l' k' h1 h2)
        refine hS _ _ ⟨fun g => absurd ((q_le (a := 4) (by omega) (by omega)).1 g) (by omega), fun _ => ?_⟩
        rw [show (64 : Int32) = nI 64 from rfl, pk_mul, nI_add, q_in (by omega), q_cl (by omega), rC l o (by omega) ho, q_in (by omega), q_cl (by omega), (hW o ho).1]
        refine ⟨by omega, fun g => ?_, fun g => ⟨by omega, ?_⟩⟩
        · have g := lg_res.1 g
          have z : ∀ k2 q, sumN (fun v => sumN (fun k => D l o v k q) wn) k2 % 1000000007 = 0 := fun k2 q => sumN_m0 k2 (fun v _ => sumN_m0 wn (fun k _ => mul_m0 (mul_m0 g)))
          exact nxt C (Acc_m hC (fun q _ => by rw [z v q, z 4 q])) _
        · rw [show (2 : Int32) = nI 2 from rfl, q_divN (by omega) (by omega) (by omega), pk_mul, q_remN', show (4 : Int32) = nI 4 from rfl, nI_add]
          have rO := WS_R2 hok (hW o ho).2
          refine mB (by omega) (by omega) (by omega) rO ?_
          unfold wX12_countBlocks_L90
          intro T hT
          refine q_cnt0 (Q := fun k => ∀ G, Acc 832 (fun q => sumN (fun k => D l o v k q) k) C G → T (nI k) G) wn ?_ ?_ C (Acc_r _ _)
          · intro G hG
            refine hT _ _ ⟨fun _ x11 e11 => ?_, fun g => absurd ((q_le (by omega) (by omega)).2 (Nat.le_refl wn)) g⟩
            rw [e11, nI_1]
            exact ihv G (Acc_sum (F := fun v q => sumN (fun k => D l o v k q) wn) hC hG)
          · intro k hk ihk G hG
            refine hT _ _ ⟨fun g => absurd ((q_le (by omega) (by omega)).1 g) (by omega), fun _ => ?_⟩
            have rG : ∀ l' k', l' ≤ L → k' < wn → G (64 * l' + k') = lN (wcn y l' (xs k') % 1000000007) := fun l' k' h1 h2 => Acc_0 hG (by omega) (sumN_0 k (fun d _ => off l o v d l' k' (by omega) (by omega))) (rC l' k' h1 h2)
            rw [show (64 : Int32) = nI 64 from rfl, pk_mul, nI_add, q_in (by omega), q_cl (by omega), rG _ k (by omega) hk]
            refine ⟨by omega, fun g2 x13 e13 => ?_, fun g2 => ?_⟩
            · have g2 := lg_res.1 g2
              rw [e13, nI_1]
              refine ihk G (Acc_sum (F := fun k q => D l o v k q) hG (Acc_m (Acc_r _ _) (fun q _ => ?_)))
              show 0 % 1000000007 = (whW 64 wn xs (L + 1) _ q * _) % 1000000007
              rw [mul_m0 (mul_m0' g2)]
            · rw [q_in (by omega), q_cl (by omega), (hW k hk).1]
              refine ⟨by omega, mF (WS_R2 hok (hW k hk).2) (R2_B hok _ _ _) ?_⟩
              have hs : WS y (thn (xs k) (sB y (v / 2) (4 + v % 2) (xs o))) := WS_stp (hW k hk).2 (.inr (.inr ⟨_, _, _, by omega, by omega, by omega, (hW o ho).2, rfl⟩))
              obtain ⟨j, hj, ej⟩ := WE.2.2 _ hs
              refine m_wholeOf hw hy WW hok hj ej ?_
              intro x16 e16
              rw [pk_mul, nI_add] at e16
              subst e16
              rw [q_in (by omega), q_cl (by omega), pk_mul, nI_add, q_in (by omega), q_cl (by omega), rG l o (by omega) ho, lN_mul]
              refine ⟨by omega, by omega, by omega, fun x17 e17 => ⟨by omega, fun g18 e18 x19 e19 => ?_⟩⟩
              rw [e19, nI_1, e18, e17]
              refine ihk _ (Acc_sum (F := fun k q => D l o v k q) hG (Acc_e (Acc_upd (M := wcn y (L - 1 - l) (xs k) * wcn y l (xs o)) res_mul (Nat.mul_mod _ _ _).symm G) (fun q _ => ?_)))
              show ind (q = 64 * (L + 1) + j) * _ = whW 64 wn xs (L + 1) _ q * _
              rw [whW_eq hi hj ej]
end
