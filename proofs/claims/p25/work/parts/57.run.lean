/-- one reader's walk is its row -/
theorem rsy_one {n : Nat} {w : Nat → Nat} (h1 : 1 ≤ n) (hR : ∀ j, Rn n (w j)) {lt : Nat → Nat} : ∀ k, rsy ((n, w), (0, fun _ => 0)) lt k = rsm w n lt k ∧ (rsm w n lt k).1 < 8 ∧ (rsm w n lt k).2.1 < 512 ∧ ∀ e, e ∈ (rsm w n lt k).2.2 → e.1 < 8 ∧ e.2.1 < 512
  | 0 => ⟨by show (1 + 8 * 0, idn n + 512 * idn 0, []) = (1, idn n, []); rfl, by show 1 < 8; omega, idn_lt n, fun e he => by simp [rsm] at he⟩
  | k + 1 => by
    obtain ⟨i1, i2, i3, i4⟩ := rsy_one h1 hR k
    have eA : ∀ l c, c < 8 → sA ((n, w), (0, fun _ => 0)) l c = img c (aln w l) := fun l c hc => by
      show img c (aln w l) + 8 * img (c / 8) (aln (fun _ => 0) l) = _
      rw [aln_zero, img_y0]; rfl
    have eI : ∀ c x, c < 8 → x < 512 → imc c (x + 512 * 0) = img c x := fun c x hc hx => by
      show img c (x + 0) + 8 * img (c / 8) ((x + 0) / 512) = _
      rw [show c / 8 = 0 from by omega, img_0]; rfl
    have eT : ∀ x z, x < 512 → z < 512 → thn x (z + 512 * 0) = thn3 x z := fun x z hx hz => by
      show thn3 x (z + 0) + 512 * thn3 (x / 512) ((z + 0) / 512) = _
      rw [show x / 512 = 0 from by omega, thn3_0]; rfl
    have eE : sE ((n, w), (0, fun _ => 0)) = idn n := rfl
    have eP : ∀ l, sP ((n, w), (0, fun _ => 0)) l = w (3 * l + 1) + 512 * 0 := fun _ => rfl
    have eB : ∀ a e x, sB ((n, w), (0, fun _ => 0)) a e x = wrp w a e x + 512 * 0 := fun a e x => by
      show wrp w a e x + 512 * wrp (fun _ => 0) a e (x / 512) = _
      rw [wrp_zero]
    unfold rsy rsm
    simp only
    rw [i1]
    by_cases g2 : lt k < 2
    · rw [if_pos g2, if_pos g2, eA _ _ i2, eE]
      refine ⟨rfl, img_lt _ _, idn_lt n, fun e he => ?_⟩
      rcases List.mem_cons.1 he with e' | he
      · subst e'; exact ⟨i2, i3⟩
      · exact i4 e he
    · rw [if_neg g2, if_neg g2]
      by_cases g4 : lt k < 4
      · rw [if_pos g4, if_pos g4, eP, eI _ _ i2 (hR _).1, eT _ _ i3 (hR _).1]
        exact ⟨rfl, img_lt _ _, thn3_lt _ _, i4⟩
      · rw [if_neg g4, if_neg g4]
        cases e : (rsm w n lt k).2.2 with
        | nil =>
          simp only
          rw [eA _ _ i2, eE]
          exact ⟨rfl, img_lt _ _, idn_lt n, fun e he => by simp at he⟩
        | cons a r =>
          obtain ⟨c, x, l⟩ := a
          rw [e] at i4
          have := i4 (c, x, l) List.mem_cons_self
          simp only
          rw [eB, eI _ _ this.1 (wrp_lt _ _ _ _), eT _ _ this.2 (wrp_lt _ _ _ _)]
          exact ⟨rfl, img_lt _ _, thn3_lt _ _, fun e he => i4 e (List.mem_cons_of_mem _ he)⟩
/-- both readers' walks are the row of both -/
theorem rsy_two {n0 n1 : Nat} {w0 w1 : Nat → Nat} (hn1 : 1 ≤ n1) (h0 : ∀ j, Rn n0 (w0 j)) (h1 : ∀ j, Rn n1 (w1 j)) {lt : Nat → Nat} : ∀ k, (rsy ((n0, w0), (n1, w1)) lt k).1 = (rsm w0 n0 lt k).1 + 8 * (rsm w1 n1 lt k).1 ∧ (rsy ((n0, w0), (n1, w1)) lt k).2.1 = (rsm w0 n0 lt k).2.1 + 512 * (rsm w1 n1 lt k).2.1 ∧ (rsm w0 n0 lt k).1 < 8 ∧ (rsm w0 n0 lt k).2.1 < 512 ∧
    (rsy ((n0, w0), (n1, w1)) lt k).2.2 = List.zipWith (fun a b => (a.1 + 8 * b.1, a.2.1 + 512 * b.2.1, a.2.2)) (rsm w0 n0 lt k).2.2 (rsm w1 n1 lt k).2.2 ∧ (rsm w0 n0 lt k).2.2.map (fun a => a.2.2) = (rsm w1 n1 lt k).2.2.map (fun a => a.2.2) ∧ ∀ e, e ∈ (rsm w0 n0 lt k).2.2 → e.1 < 8 ∧ e.2.1 < 512
  | 0 => ⟨by show 1 + 8 * (if n1 = 0 then 0 else 1) = 1 + 8 * 1; rw [if_neg (by omega)], rfl, by show 1 < 8; omega, idn_lt n0, rfl, rfl, fun e he => by simp [rsm] at he⟩
  | k + 1 => by
    obtain ⟨i1, i2, i3, i4, i5, i6, i7⟩ := rsy_two hn1 h0 h1 k
    have eI : ∀ c d x z, c < 8 → x < 512 → imc (c + 8 * d) (x + 512 * z) = img c x + 8 * img d z := fun c d x z hc hx => by
      unfold imc
      rw [cmb_div hx, img_cl hx, ← img_mod, show (c + 8 * d) % 8 = c from by omega, show (c + 8 * d) / 8 = d from by omega]
    have eA : ∀ l c d, c < 8 → sA ((n0, w0), (n1, w1)) l (c + 8 * d) = img c (aln w0 l) + 8 * img d (aln w1 l) := fun l c d hc => by
      show img (c + 8 * d) (aln w0 l) + 8 * img ((c + 8 * d) / 8) (aln w1 l) = _
      rw [← img_mod, show (c + 8 * d) % 8 = c from by omega, show (c + 8 * d) / 8 = d from by omega]
    have eB : ∀ a e x z, x < 512 → sB ((n0, w0), (n1, w1)) a e (x + 512 * z) = wrp w0 a e x + 512 * wrp w1 a e z := fun a e x z hx => by
      show wrp w0 a e (x + 512 * z) + 512 * wrp w1 a e ((x + 512 * z) / 512) = _
      rw [cmb_div hx]
      unfold wrp
      rw [thn3_cr hx, thn3_cr hx]
    have eP : ∀ l, sP ((n0, w0), (n1, w1)) l = w0 (3 * l + 1) + 512 * w1 (3 * l + 1) := fun _ => rfl
    unfold rsy rsm
    simp only
    rw [i1, i2]
    by_cases g2 : lt k < 2
    · rw [if_pos g2, if_pos g2, if_pos g2, eA _ _ _ i3, i5]
      refine ⟨rfl, rfl, img_lt _ _, idn_lt n0, rfl, by simp only [List.map_cons, i6], fun e he => ?_⟩
      rcases List.mem_cons.1 he with e' | he
      · subst e'; exact ⟨i3, i4⟩
      · exact i7 e he
    · rw [if_neg g2, if_neg g2, if_neg g2]
      by_cases g4 : lt k < 4
      · rw [if_pos g4, if_pos g4, if_pos g4, eP, eI _ _ _ _ i3 (h0 _).1, thn_cmb i4 (h0 _).1]
        exact ⟨rfl, rfl, img_lt _ _, thn3_lt _ _, i5, i6, i7⟩
      · rw [if_neg g4, if_neg g4, if_neg g4, i5]
        cases e : (rsm w0 n0 lt k).2.2 with
        | nil =>
          cases e' : (rsm w1 n1 lt k).2.2 with
          | nil =>
            simp only [List.zipWith_nil_left]
            rw [eA _ _ _ i3]
            exact ⟨rfl, rfl, img_lt _ _, idn_lt n0, trivial, trivial, fun e he => by simp at he⟩
          | cons b s => rw [e, e'] at i6; simp at i6
        | cons a r =>
          cases e' : (rsm w1 n1 lt k).2.2 with
          | nil => rw [e, e'] at i6; simp at i6
          | cons b s =>
            obtain ⟨c, x, l⟩ := a
            obtain ⟨c', x', l'⟩ := b
            rw [e, e'] at i6
            simp only [List.map_cons] at i6
            injection i6 with j1 j2
            have j1 : l = l' := j1
            subst j1
            rw [e] at i7
            have := i7 (c, x, l) List.mem_cons_self
            simp only [List.zipWith_cons_cons]
            rw [eB _ _ _ _ i4, eI _ _ _ _ this.1 (wrp_lt _ _ _ _), thn_cmb this.2 (wrp_lt _ _ _ _)]
            exact ⟨rfl, rfl, img_lt _ _, thn3_lt _ _, trivial, j2, fun e he => i7 e (List.mem_cons_of_mem _ he)⟩
