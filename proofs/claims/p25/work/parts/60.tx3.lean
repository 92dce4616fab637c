section
variable {tb : Nat → Nat} {z : Nat}
theorem lg_m1 {i : Nat} (hi : i ≤ z) : lg_cmp (iL (tz tb z i)) (-1 : Int64) = 0 ↔ isDg tb (tkS tb z i) (tkE tb z i) := by
  rw [iL_m1, iL_eq (tz_b hi).1 (tz_b hi).2 (by omega) (by omega), tz_num hi]
theorem m_isNumber {i at' lim : Nat} (hz : z ≤ 160) (hb : ∀ j, tb j < 256) (hi : i ≤ z) (ha : at' < 64) (l1 : 1 ≤ lim) (l3 : lim ≤ 3) {a : Int32} {b : Int64} {c d fa : Int32} {rd : Nat → Int32} {K : Int32 → Int32 → Int32 → Int64 → Int32 → Int32 → Int32 → (Nat → Int32) → Prop}
    (h1 : isNm tb z lim i → ∀ tA tk dg nb, K (nI 1) (nI (tkE tb z i)) tA tk dg nb fa (upd rd at' (nI (dgV tb z i))))
    (h0 : ¬ isNm tb z lim i → ∀ po tA tk dg nb, K (nI 0) po tA tk dg nb (nI (tkS tb z i)) rd) :
    wX12_isNumber (nI at') (nI lim - 1) (nI z) (nI i) a b c d fa (fun j => nI (tb j)) rd K := by
  unfold wX12_isNumber wX12_fails
  rw [show nI lim - (1 : Int32) = nI (lim - 1) from by rw [show (1 : Int32) = nI 1 from rfl, q_subN l1]]
  refine q_next hz hb hi (fun dg => ?_)
  rw [lg_m1 hi]
  refine ⟨fun g => ?_, fun g => h0 (fun hn => g hn.1) _ _ _ _ _⟩
  rw [nz_num g hi]
  have d10 := isDg_lt g
  have : dgV tb z i = tb (tkS tb z i) - 48 := rfl
  rw [q_le (by omega) (by omega), q_in (by omega), q_cl (by omega)]
  refine ⟨fun g2 => ⟨ha, ?_⟩, fun g2 => h0 (fun hn => ?_) _ _ _ _ _⟩
  · rintro g10 rfl
    exact h1 ⟨g, by omega⟩ _ _ _ _
  · have := hn.2; omega
theorem m_isWord {i : Nat} (hz : z ≤ 160) (hb : ∀ j, tb j < 256) (hi : i ≤ z) {cst : Int64} {wd : List Nat} (hc : lg_cmp (iL (tz tb z i)) cst = 0 ↔ isWi tb z i wd) {a : Int32} {b : Int64} {c d fa : Int32} {K : Int32 → Int32 → Int32 → Int64 → Int32 → Int32 → Int32 → Prop}
    (h1 : isWi tb z i wd → ∀ tA tk dg nb, K (nI 1) (nI (tkE tb z i)) tA tk dg nb fa)
    (h0 : ¬ isWi tb z i wd → ∀ po tA tk dg nb, K (nI 0) po tA tk dg nb (nI (tkS tb z i))) :
    wX12_isWord cst (nI z) (nI i) a b c d fa (fun j => nI (tb j)) K := by
  unfold wX12_isWord wX12_fails
  refine q_next hz hb hi (fun dg => ?_)
  rw [hc]
  exact ⟨fun g => h1 g _ _ _ _, fun g => ⟨fun _ => h0 g _ _ _ _ _, fun g2 => absurd rfl g2⟩⟩
def rTo : List Nat := [15, 20]
def rPut : List Nat := [20, 21, 16]
def rTake : List Nat := [5, 11, 1, 20]
def rNone : List Nat := [5, 14, 15, 14]
theorem wd_to {i : Nat} (hi : i ≤ z) : lg_cmp (iL (tz tb z i)) (555 : Int64) = 0 ↔ isWi tb z i wdTo := by
  rw [show (555 : Int64) = iL 555 from by decide, iL_eq (tz_b hi).1 (tz_b hi).2 (by omega) (by omega)]
  exact tz_wd (r := rTo) (wd := wdTo) hi (by decide) rfl (by decide) (by decide) (by decide) (by decide)
theorem wd_put {i : Nat} (hi : i ≤ z) : lg_cmp (iL (tz tb z i)) (12251 : Int64) = 0 ↔ isWi tb z i wdPut := by
  rw [show (12251 : Int64) = iL 12251 from by decide, iL_eq (tz_b hi).1 (tz_b hi).2 (by omega) (by omega)]
  exact tz_wd (r := rPut) (wd := wdPut) hi (by decide) rfl (by decide) (by decide) (by decide) (by decide)
theorem wd_take {i : Nat} (hi : i ≤ z) : lg_cmp (iL (tz tb z i)) (394691 : Int64) = 0 ↔ isWi tb z i wdTake := by
  rw [show (394691 : Int64) = iL 394691 from by decide, iL_eq (tz_b hi).1 (tz_b hi).2 (by omega) (by omega)]
  exact tz_wd (r := rTake) (wd := wdTake) hi (by decide) rfl (by decide) (by decide) (by decide) (by decide)
theorem wd_none {i : Nat} (hi : i ≤ z) : lg_cmp (iL (tz tb z i)) (286880 : Int64) = 0 ↔ isWi tb z i wdNone := by
  rw [show (286880 : Int64) = iL 286880 from by decide, iL_eq (tz_b hi).1 (tz_b hi).2 (by omega) (by omega)]
  exact tz_wd (r := rNone) (wd := wdNone) hi (by decide) rfl (by decide) (by decide) (by decide) (by decide)
/-- the four numbers that the reference keeps of a move -/
def RdOk (rd rd' : Nat → Int32) (at' a c k b : Nat) : Prop := rd' at' = nI a ∧ rd' (at' + 1) = nI c ∧ rd' (at' + 2) + nI 1 = nI k ∧ rd' (at' + 3) = nI b ∧ ∀ j, (j < at' ∨ at' + 4 ≤ j) → rd' j = rd j
theorem m_isMove {i at' r n m : Nat} (hz : z ≤ 160) (hb : ∀ j, tb j < 256) (hi : i ≤ z) (ha : at' + 3 < 64) (hr : r < 2) (n1 : 1 ≤ n) (n3 : n ≤ 3) (m1 : 1 ≤ m) (m2 : m ≤ 2) {st mk : Nat → Int32} (hs : st r = nI n) (hm : mk r = nI m) {a0 : Int32} {b0 : Int64} {c0 d0 fa : Int32} {rd : Nat → Int32} {K : Int32 → Int32 → Int32 → Int64 → Int32 → Int32 → Int32 → (Nat → Int32) → Prop}
    (h1 : ∀ p a c k b rd', MvOk tb z n m i p a c k b → RdOk rd rd' at' a c k b → ∀ tA tk dg nb fa', K (nI 1) (nI p) tA tk dg nb fa' rd')
    (h0 : ∀ s, MvBad tb z n m i s → ∀ po tA tk dg nb rd', (∀ j, (j < at' ∨ at' + 4 ≤ j) → rd' j = rd j) → K (nI 0) po tA tk dg nb (nI s) rd') :
    wX12_isMove (nI at') (nI r) (nI z) (nI i) a0 b0 c0 d0 fa st mk (fun j => nI (tb j)) rd K := by
  have he0 := (tkE_spec tb hi).2
  have he1 := (tkE_spec tb he0).2
  have he2 := (tkE_spec tb he1).2
  have he3 := (tkE_spec tb he2).2
  have he4 := (tkE_spec tb he3).2
  unfold wX12_isMove
  rw [q_in (by omega), q_cl (by omega), hs, hm]
  refine ⟨hr, m_isNumber hz hb hi (by omega) n1 n3 (fun g0 tA tk dg nb => ?_) (fun g0 po tA tk dg nb => ?_)⟩
  rotate_left
  · exact ⟨fun _ => h0 _ (.inl ⟨g0, rfl⟩) _ _ _ _ _ _ (fun _ _ => rfl), fun g => absurd rfl g⟩
  refine ⟨fun g => absurd g (by decide), fun _ => q_next hz hb he0 (fun dg2 => ?_)⟩
  have tb1 := tz_b (tb := tb) he0
  unfold wX12_fails
  have c1 : lg_cmp (iL (tz tb z (tkE tb z i))) (1 : Int64) < 0 ↔ tz tb z (tkE tb z i) < 1 := by
    rw [show (1 : Int64) = iL 1 from by decide, iL_lt tb1.1 tb1.2 (by omega) (by omega)]
  have c6 : lg_cmp (iL (tz tb z (tkE tb z i))) (6 : Int64) ≤ 0 ↔ tz tb z (tkE tb z i) ≤ 6 := by
    rw [show (6 : Int64) = iL 6 from by decide, iL_le tb1.1 tb1.2 (by omega) (by omega)]
  have keep1 : ∀ j, (j < at' ∨ at' + 4 ≤ j) → upd rd at' (nI (dgV tb z i)) j = rd j := fun j hj => q_un (by omega)
  rw [c1, c6]
  have hlt := tz_let (tb := tb) he0
  refine ⟨fun g => h0 _ (.inr ⟨g0, _, rfl, .inl ⟨fun hl => by have := hlt.2 hl; omega, rfl⟩⟩) _ _ _ _ _ _ keep1, fun g1 => ⟨fun g6 => ?_, fun g => h0 _ (.inr ⟨g0, _, rfl, .inl ⟨fun hl => by have := hlt.2 hl; omega, rfl⟩⟩) _ _ _ _ _ _ keep1⟩⟩
  have gl := hlt.1 ⟨by omega, g6⟩
  obtain ⟨c, ec⟩ : ∃ c, c = tb (tkS tb z (tkE tb z i)) - 97 := ⟨_, rfl⟩
  have hc : c < 6 := by have := gl.2.2; omega
  intro x19 e19
  have ex : x19 = nI c := by
    rw [e19, tz_let_v gl he0, ← lN_iL (by omega), lN_i, show (1 : Int32) = nI 1 from rfl, q_subN (by have := gl.2.1; omega)]
    congr 1; omega
  subst ex
  obtain ⟨i2, ei2⟩ : ∃ x, x = tkE tb z (tkE tb z i) := ⟨_, rfl⟩
  rw [← ei2] at he1 he2 he3 he4 ⊢
  have bad2 : ∀ s, MvBadT tb z n m c i2 s → MvBad tb z n m i s := fun s H => .inr ⟨g0, _, rfl, .inr ⟨gl, c, i2, ec, ei2, H⟩⟩
  simp (disch := omega) only [q_lit, nI_add, q_in, q_cl, forall_eq, q_le, q_lt]
  refine ⟨by omega, by omega, fun c4 => ?_, fun c4 => ?_⟩
  · -- e, f
    have keep2 : ∀ j, (j < at' ∨ at' + 4 ≤ j) → upd (upd (upd rd at' (nI (dgV tb z i))) (at' + 1) (nI c)) (at' + 2) (nI 0) j = rd j := fun j hj => by rw [q_un (by omega), q_un (by omega), q_un (by omega)]
    refine m_isWord hz hb he1 (wd_take he1) (fun g2 tA tk dg nb => ?_) (fun g2 po tA tk dg nb => ?_)
    rotate_left
    · exact ⟨fun _ => h0 _ (bad2 _ (.inr ⟨c4, .inl ⟨g2, rfl⟩⟩)) _ _ _ _ _ _ keep2, fun g => absurd rfl g⟩
    refine ⟨fun g => absurd g (by decide), fun _ => q_next hz hb he2 (fun dg3 => ?_)⟩
    have wn : lg_cmp (iL (tz tb z (tkE tb z i2))) (286880 : Int64) = nI 0 ↔ isWi tb z (tkE tb z i2) wdNone := wd_none he2
    have wm : lg_cmp (iL (tz tb z (tkE tb z i2))) (-1 : Int64) = nI 0 ↔ isDg tb (tkS tb z (tkE tb z i2)) (tkE tb z (tkE tb z i2)) := lg_m1 he2
    rw [wn, wm]
    have rest : ∀ (k : Nat) (v : Int32), v + nI 1 = nI k → ((isWi tb z (tkE tb z i2) wdNone ∧ k = 0) ∨ (¬ isWi tb z (tkE tb z i2) wdNone ∧ isNm tb z m (tkE tb z i2) ∧ k = dgV tb z (tkE tb z i2) + 1)) → (isWi tb z (tkE tb z i2) wdNone ∨ isNm tb z m (tkE tb z i2)) → ∀ (tA : Int32) (tk : Int64) (dg nb fa' : Int32),
        wX12_isWord (555 : Int64) (nI z) (nI (tkE tb z (tkE tb z i2))) tA tk dg nb fa' (fun j => nI (tb j)) (fun r62 u63 u64 u65 u66 u67 u68 => ((r62 = nI 0 → K (nI 0) u63 u64 u65 u66 u67 u68 (upd (upd (upd (upd rd at' (nI (dgV tb z i))) (at' + 1) (nI c)) (at' + 2) (nI 0)) (at' + 2) v)) ∧ (¬ r62 = nI 0 → (r < 2 ∧ (wX12_isNumber (nI (at' + 3)) (nI n - nI 1) (nI z) u63 u64 u65 u66 u67 u68 (fun j => nI (tb j)) (upd (upd (upd (upd rd at' (nI (dgV tb z i))) (at' + 1) (nI c)) (at' + 2) (nI 0)) (at' + 2) v) (fun r70 u71 u72 u73 u74 u75 u76 u77 => ((r70 = nI 0 → K (nI 0) u71 u72 u73 u74 u75 u76 u77) ∧ (¬ r70 = nI 0 → K (nI 1) u71 u72 u73 u74 u75 u76 u77)))))))) := by
      intro k v hv hd hd2 tA tk dg nb fa'
      have keep3 : ∀ j, (j < at' ∨ at' + 4 ≤ j) → upd (upd (upd (upd rd at' (nI (dgV tb z i))) (at' + 1) (nI c)) (at' + 2) (nI 0)) (at' + 2) v j = rd j := fun j hj => by rw [q_un (by omega)]; exact keep2 j hj
      refine m_isWord hz hb he3 (wd_to he3) (fun g4 tA tk dg nb => ?_) (fun g4 po tA tk dg nb => ?_)
      rotate_left
      · exact ⟨fun _ => h0 _ (bad2 _ (.inr ⟨c4, .inr ⟨g2, _, rfl, .inr ⟨hd2, _, rfl, .inl ⟨g4, rfl⟩⟩⟩⟩)) _ _ _ _ _ _ keep3, fun g => absurd rfl g⟩
      refine ⟨fun g => absurd g (by decide), fun _ => ⟨hr, m_isNumber hz hb he4 (by omega) n1 n3 (fun g5 tA tk dg nb => ?_) (fun g5 po tA tk dg nb => ?_)⟩⟩
      · refine ⟨fun g => absurd g (by decide), fun _ => h1 _ _ _ _ _ _ ⟨g0, rfl, gl, ec, i2, ei2, .inr ⟨c4, g2, _, rfl, hd, _, rfl, g4, _, rfl, g5, rfl, rfl⟩⟩ ⟨?_, ?_, ?_, ?_, fun j hj => ?_⟩ _ _ _ _ _⟩
        · rw [q_un (by omega), q_un (by omega), q_un (by omega), q_un (by omega), q_us]
        · rw [q_un (by omega), q_un (by omega), q_un (by omega), q_us]
        · rw [q_un (by omega), q_us]; exact hv
        · rw [q_us]
        · rw [q_un (by omega)]; exact keep3 j hj
      · exact ⟨fun _ => h0 _ (bad2 _ (.inr ⟨c4, .inr ⟨g2, _, rfl, .inr ⟨hd2, _, rfl, .inr ⟨g4, _, rfl, g5, rfl⟩⟩⟩⟩)) _ _ _ _ _ _ keep3, fun g => absurd rfl g⟩
    refine ⟨fun gn => ⟨by omega, rest 0 (-nI 1) (by decide) (.inl ⟨gn, rfl⟩) (.inl gn) _ _ _ _ _⟩, fun gn => ?_⟩
    refine ⟨fun g3 => ?_, fun g3 => h0 _ (bad2 _ (.inr ⟨c4, .inr ⟨g2, _, rfl, .inl ⟨gn, fun hn => g3 hn.1, rfl⟩⟩⟩)) _ _ _ _ _ _ keep2⟩
    have d10 := isDg_lt g3
    have dv : dgV tb z (tkE tb z i2) = tb (tkS tb z (tkE tb z i2)) - 48 := rfl
    rw [nz_num g3 he2, q_le (by omega) (by omega)]
    refine ⟨hr, fun g5 => h0 _ (bad2 _ (.inr ⟨c4, .inr ⟨g2, _, rfl, .inl ⟨gn, fun hn => by have := hn.2; omega, rfl⟩⟩⟩)) _ _ _ _ _ _ keep2, fun g5 => ⟨by omega, ?_⟩⟩
    have hN : isNm tb z m (tkE tb z i2) := ⟨g3, by omega⟩
    exact rest (dgV tb z (tkE tb z i2) + 1) (nI (dgV tb z (tkE tb z i2))) (nI_1 _) (.inr ⟨gn, hN, rfl⟩) (.inr hN) _ _ _ _ _
  · -- a, b, c, d
    have keep2 : ∀ j, (j < at' ∨ at' + 4 ≤ j) → upd (upd (upd rd at' (nI (dgV tb z i))) (at' + 1) (nI c)) (at' + 2) (nI 0) j = rd j := fun j hj => by rw [q_un (by omega), q_un (by omega), q_un (by omega)]
    refine m_isWord hz hb he1 (wd_to he1) (fun g2 tA tk dg nb => ?_) (fun g2 po tA tk dg nb => ?_)
    rotate_left
    · exact ⟨fun _ => h0 _ (bad2 _ (.inl ⟨by omega, .inl ⟨g2, rfl⟩⟩)) _ _ _ _ _ _ keep2, fun g => absurd rfl g⟩
    refine ⟨fun g => absurd g (by decide), fun _ => ⟨hr, m_isNumber hz hb he2 (by omega) n1 n3 (fun g3 tA tk dg nb => ?_) (fun g3 po tA tk dg nb => ?_)⟩⟩
    rotate_left
    · exact ⟨fun _ => h0 _ (bad2 _ (.inl ⟨by omega, .inr ⟨g2, _, rfl, .inl ⟨g3, rfl⟩⟩⟩)) _ _ _ _ _ _ keep2, fun g => absurd rfl g⟩
    have keep3 : ∀ j, (j < at' ∨ at' + 4 ≤ j) → upd (upd (upd (upd rd at' (nI (dgV tb z i))) (at' + 1) (nI c)) (at' + 2) (nI 0)) (at' + 3) (nI (dgV tb z (tkE tb z i2))) j = rd j := fun j hj => by rw [q_un (by omega)]; exact keep2 j hj
    refine ⟨fun g => absurd g (by decide), fun _ => ⟨fun c1 => ?_, fun c1 => ?_⟩⟩
    · refine h1 _ _ _ _ _ _ ⟨g0, rfl, gl, ec, i2, ei2, .inl ⟨by omega, g2, _, rfl, g3, rfl, _, rfl, .inl ⟨by omega, rfl, rfl⟩⟩⟩ ⟨?_, ?_, ?_, ?_, keep3⟩ _ _ _ _ _
      · rw [q_un (by omega), q_un (by omega), q_un (by omega), q_us]
      · rw [q_un (by omega), q_un (by omega), q_us]
      · rw [q_un (by omega), q_us]; rfl
      · rw [q_us]
    · refine m_isWord hz hb he3 (wd_put he3) (fun g4 tA tk dg nb => ?_) (fun g4 po tA tk dg nb => ?_)
      rotate_left
      · exact ⟨fun _ => h0 _ (bad2 _ (.inl ⟨by omega, .inr ⟨g2, _, rfl, .inr ⟨g3, by omega, _, rfl, .inl ⟨g4, rfl⟩⟩⟩⟩)) _ _ _ _ _ _ keep3, fun g => absurd rfl g⟩
      refine ⟨fun g => absurd g (by decide), fun _ => ⟨hr, m_isNumber hz hb he4 (by omega) m1 (by omega) (fun g5 tA tk dg nb => ?_) (fun g5 po tA tk dg nb => ?_)⟩⟩
      · refine ⟨fun g => absurd g (by decide), fun _ => h1 _ _ _ _ _ _ ⟨g0, rfl, gl, ec, i2, ei2, .inl ⟨by omega, g2, _, rfl, g3, rfl, _, rfl, .inr ⟨by omega, g4, _, rfl, g5, rfl, rfl⟩⟩⟩ ⟨?_, ?_, ?_, ?_, fun j hj => ?_⟩ _ _ _ _ _⟩
        · rw [q_un (by omega), q_un (by omega), q_un (by omega), q_un (by omega), q_us]
        · rw [q_un (by omega), q_un (by omega), q_un (by omega), q_us]
        · rw [q_us]; exact nI_1 _
        · rw [q_un (by omega), q_us]
        · rw [q_un (by omega)]; exact keep3 j hj
      · exact ⟨fun _ => h0 _ (bad2 _ (.inl ⟨by omega, .inr ⟨g2, _, rfl, .inr ⟨g3, by omega, _, rfl, .inr ⟨g4, _, rfl, g5, rfl⟩⟩⟩⟩)) _ _ _ _ _ _ keep3, fun g => absurd rfl g⟩
end
