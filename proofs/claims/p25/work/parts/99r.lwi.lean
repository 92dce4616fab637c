/-- what holds of both between calls -/
abbrev LawI (J : Nat) (vl_states : Int32) (vl_marks : Int32) (vl_takes : Int32) (vl_changes : Int32) (vl_ways : Nat → Int32) (vr_states : Int32) (vr_marks : Int32) (vr_takes : Int32) (vr_changes : Int32) (vr_ways : Nat → Int32) (vtx_size : Int32) (vtx_start : Int32) (vtx_behind : Int32) (vtx_from : Int32) (vtx_letter : Int32) (vtx_mark : Int32) (vtx_to : Int32) (vtx_bytes : Nat → Int32) (vro_size : Int32) (vro_letters : Nat → Int32) (vro_base : Nat → Int32) (vwk_same : Int32) (vwk_come : Nat → Int32) (vwk_since : Nat → Int32) (vrn_come : Nat → Int64) (vrn_since : Nat → Int64) (vrn_factor : Nat → Int64) (vrn_half : Nat → Int64) (vlP_filled : Int64) (vlP_codes : Int64) (vlP_size : Int32) (vlP_edition : Int32) (vlP_seen : Int32) (vlP_wholesSize : Int32) (vlP_wholesSteps : Int32) (vlP_wholesSpent : Int32) (vlP_wholesPairs : Nat → Int32) (vlP_wholesStepof : Nat → Int32) (vlP_wholesWholeof : Nat → Int32) (vlP_wholesNext : Nat → Int32) (vlP_wholesAround : Nat → Int32) (vlP_wholesPlain : Nat → Int32) (vlP_wholesSlots : Nat → Int32) (vlP_images : Nat → Int32) (vlP_spreads : Nat → Int64) (vrP_filled : Int64) (vrP_codes : Int64) (vrP_size : Int32) (vrP_edition : Int32) (vrP_seen : Int32) (vrP_wholesSize : Int32) (vrP_wholesSteps : Int32) (vrP_wholesSpent : Int32) (vrP_wholesPairs : Nat → Int32) (vrP_wholesStepof : Nat → Int32) (vrP_wholesWholeof : Nat → Int32) (vrP_wholesNext : Nat → Int32) (vrP_wholesAround : Nat → Int32) (vrP_wholesPlain : Nat → Int32) (vrP_wholesSlots : Nat → Int32) (vrP_images : Nat → Int32) (vrP_spreads : Nat → Int64) (vbP_filled : Int64) (vbP_codes : Int64) (vbP_size : Int32) (vbP_edition : Int32) (vbP_seen : Int32) (vbP_wholesSize : Int32) (vbP_wholesSteps : Int32) (vbP_wholesSpent : Int32) (vbP_wholesPairs : Nat → Int32) (vbP_wholesStepof : Nat → Int32) (vbP_wholesWholeof : Nat → Int32) (vbP_wholesNext : Nat → Int32) (vbP_wholesAround : Nat → Int32) (vbP_wholesPlain : Nat → Int32) (vbP_wholesSlots : Nat → Int32) (vbP_images : Nat → Int32) (vbP_spreads : Nat → Int64) (vlL_edition : Int32) (vlL_changed : Int32) (vlL_whole : Nat → Int32) (vlL_step : Nat → Int32) (vlL_ground : Nat → Int32) (vlL_above : Nat → Int32) (vrL_edition : Int32) (vrL_changed : Int32) (vrL_whole : Nat → Int32) (vrL_step : Nat → Int32) (vrL_ground : Nat → Int32) (vrL_above : Nat → Int32) (vbL_edition : Int32) (vbL_changed : Int32) (vbL_whole : Nat → Int32) (vbL_step : Nat → Int32) (vbL_ground : Nat → Int32) (vbL_above : Nat → Int32) (vlC_edition : Int32) (vlC_counted : Int32) (vlC_whole : Nat → Int64) (vlC_step : Nat → Int64) (vlC_ground : Nat → Int64) (vlC_above : Nat → Int64) (vrC_edition : Int32) (vrC_counted : Int32) (vrC_whole : Nat → Int64) (vrC_step : Nat → Int64) (vrC_ground : Nat → Int64) (vrC_above : Nat → Int64) (vlS_seen : Int32) (vlS_rowSize : Int32) (vlS_rowLetters : Nat → Int32) (vlS_rowBase : Nat → Int32) (vlS_walkSame : Int32) (vlS_walkCome : Nat → Int32) (vlS_walkSince : Nat → Int32) (vlS_words : Nat → Int64) (vlS_listed : Nat → Int32) (vrS_seen : Int32) (vrS_rowSize : Int32) (vrS_rowLetters : Nat → Int32) (vrS_rowBase : Nat → Int32) (vrS_walkSame : Int32) (vrS_walkCome : Nat → Int32) (vrS_walkSince : Nat → Int32) (vrS_words : Nat → Int64) (vrS_listed : Nat → Int32) (vm_bytes : Int32) (vm_position : Int32) (vm_tokenAt : Int32) (vm_token : Int64) (vm_digits : Int32) (vm_number : Int32) (vm_faultAt : Int32) (vm_readMany : Int32) (vm_size : Int32) (vm_stacked : Int32) (vm_come : Int32) (vm_since : Int32) (vm_known : Int32) (vm_isSpent : Int32) (vm_wholes : Int32) (vm_nodes : Int32) (vm_places : Int32) (vm_listed : Int32) (vm_nexts : Int32) (vm_states : Nat → Int32) (vm_markMany : Nat → Int32) (vm_takes : Nat → Int32) (vm_puts : Nat → Int32) (vm_goes : Nat → Int32) (vm_closes : Nat → Int32) (vm_text : Nat → Int32) (vm_read : Nat → Int32) (vm_row : Nat → Int32) (vm_partner : Nat → Int32) (vm_some : Nat → Int32) (vm_stackCome : Nat → Int32) (vm_stackSince : Nat → Int32) (vm_stackLetter : Nat → Int32) (vm_runs : Nat → Int64) (vm_ways : Nat → Int64) (vm_keptRuns : Nat → Int64) (vm_keptWays : Nat → Int64) (vm_rel : Nat → Int64) (vm_whole : Nat → Int32) (vm_wholeLong : Nat → Int32) (vm_nodeCome : Nat → Int32) (vm_nodeSince : Nat → Int32) (vm_nodeDeep : Nat → Int32) (vm_nodeLong : Nat → Int32) (vm_wholeMany : Nat → Int64) (vm_blockTo : Nat → Int32) (vm_nodeMany : Nat → Int64) (vm_listCome : Nat → Int32) (vm_listSince : Nat → Int32) (vm_nextCome : Nat → Int32) (vm_nextSince : Nat → Int32) : Prop := ∃ n0 m0 t0 c0 : Nat, ∃ w0 : Nat → Nat, ∃ n1 m1 t1 c1 : Nat, ∃ w1 : Nat → Nat, ∃ z : Nat, ∃ tb : Nat → Nat, ∃ zr : Nat, ∃ lt : Nat → Nat, 
  (vl_states = nI n0 ∧ vl_marks = nI m0 ∧ vl_takes = nI t0 ∧ vl_changes = nI c0 ∧ vl_ways = (fun j => nI (w0 j)) ∧ vr_states = nI n1 ∧ vr_marks = nI m1 ∧ vr_takes = nI t1 ∧ vr_changes = nI c1 ∧ vr_ways = (fun j => nI (w1 j)) ∧ vtx_size = nI z ∧ vtx_bytes = (fun j => nI (tb j)) ∧ vro_size = nI zr ∧ vm_bytes = nI z ∧ vm_text = (fun j => nI (tb j)) ∧ vm_size = nI zr) ∧
  (c0 ≤ 16 * J ∧ c1 ≤ 16 * J ∧ z ≤ 160 ∧ ∀ j, tb j < 256) ∧
  WfR n0 m0 t0 w0 ∧
  WfR n1 m1 t1 w1 ∧
  RowC zr lt vro_letters vro_base ∧
  (∀ i, i < zr → vm_row i = nI (lt i)) ∧
  PInv (syM 0 n0 w0 n1 w1) 8 J c0 vlP_filled vlP_codes vlP_size vlP_edition vlP_seen vlP_wholesSize vlP_wholesSteps vlP_wholesPairs vlP_wholesStepof vlP_wholesWholeof vlP_wholesNext vlP_wholesAround vlP_wholesPlain vlP_wholesSlots vlP_images vlP_spreads ∧
  PInv (syM 1 n0 w0 n1 w1) 8 J c1 vrP_filled vrP_codes vrP_size vrP_edition vrP_seen vrP_wholesSize vrP_wholesSteps vrP_wholesPairs vrP_wholesStepof vrP_wholesWholeof vrP_wholesNext vrP_wholesAround vrP_wholesPlain vrP_wholesSlots vrP_images vrP_spreads ∧
  PInv (syM 2 n0 w0 n1 w1) 64 J (c0 + c1) vbP_filled vbP_codes vbP_size vbP_edition vbP_seen vbP_wholesSize vbP_wholesSteps vbP_wholesPairs vbP_wholesStepof vbP_wholesWholeof vbP_wholesNext vbP_wholesAround vbP_wholesPlain vbP_wholesSlots vbP_images vbP_spreads ∧
  CInv (syM 0 n0 w0 n1 w1) J c0 vlP_edition vlP_seen vlP_wholesSize vlP_wholesSteps vlP_wholesPairs vlP_wholesWholeof vlC_edition vlC_counted vlC_whole vlC_step vlC_ground vlC_above ∧
  CInv (syM 1 n0 w0 n1 w1) J c1 vrP_edition vrP_seen vrP_wholesSize vrP_wholesSteps vrP_wholesPairs vrP_wholesWholeof vrC_edition vrC_counted vrC_whole vrC_step vrC_ground vrC_above ∧
  LnI (syM 0 n0 w0 n1 w1) 8 J c0 vlP_edition vlP_seen vlP_wholesSize vlP_wholesSteps vlP_wholesPairs vlP_wholesWholeof vlL_edition vlL_ground vlL_above ∧
  LnI (syM 1 n0 w0 n1 w1) 8 J c1 vrP_edition vrP_seen vrP_wholesSize vrP_wholesSteps vrP_wholesPairs vrP_wholesWholeof vrL_edition vrL_ground vrL_above ∧
  LnI (syM 2 n0 w0 n1 w1) 64 J (c0 + c1) vbP_edition vbP_seen vbP_wholesSize vbP_wholesSteps vbP_wholesPairs vbP_wholesWholeof vbL_edition vbL_ground vbL_above ∧
  LInv w0 n0 t0 c0 vlS_seen vlS_rowSize vlS_rowLetters vlS_rowBase vlS_words vlS_listed ∧
  LInv w1 n1 t1 c1 vrS_seen vrS_rowSize vrS_rowLetters vrS_rowBase vrS_words vrS_listed ∧
  MdOk n0 m0 t0 w0 n1 m1 t1 w1 vm_states vm_markMany vm_takes vm_puts vm_goes vm_closes ∧
  FPc n0 w0 n1 w1 vm_known vm_isSpent vm_wholes vm_nodes vm_places vm_whole vm_nodeCome vm_nodeSince vm_nodeDeep
theorem q_nat {x : Int32} {a b : Nat} (ha : a < 2147483648) (hb : b < 2147483648) (e : x = nI a) (e' : x = nI b) : a = b := (q_eq ha hb).1 (e.symm.trans e')
theorem PInv_chg {y y' : Sy} {nc B ch ch' : Nat} {fl0 : Int64} {co0 : Int64} {pz0 : Int32} {ed0 : Int32} {sn0 : Int32} {wz0 : Int32} {ws0 : Int32} {pa0 : Nat → Int32} {so0 : Nat → Int32} {wa0 : Nat → Int32} {nx0 : Nat → Int32} {ar0 : Nat → Int32} {pl0 : Nat → Int32} {sl0 : Nat → Int32} {im0 : Nat → Int32} {sp0 : Nat → Int64} (h : PInv y nc B ch fl0 co0 pz0 ed0 sn0 wz0 ws0 pa0 so0 wa0 nx0 ar0 pl0 sl0 im0 sp0) (hl : ch < ch') : PInv y' nc B ch' fl0 co0 pz0 ed0 sn0 wz0 ws0 pa0 so0 wa0 nx0 ar0 pl0 sl0 im0 sp0 := by
  obtain ⟨e, s, ee, es, he, hs, hv⟩ := h
  exact ⟨e, s, ee, es, he, by omega, fun _ g => by omega⟩
theorem PInv_sn {y : Sy} {nc B ch : Nat} {fl0 : Int64} {co0 : Int64} {pz0 : Int32} {ed0 : Int32} {sn0 : Int32} {wz0 : Int32} {ws0 : Int32} {pa0 : Nat → Int32} {so0 : Nat → Int32} {wa0 : Nat → Int32} {nx0 : Nat → Int32} {ar0 : Nat → Int32} {pl0 : Nat → Int32} {sl0 : Nat → Int32} {im0 : Nat → Int32} {sp0 : Nat → Int64} (h : PInv y nc B ch fl0 co0 pz0 ed0 sn0 wz0 ws0 pa0 so0 wa0 nx0 ar0 pl0 sl0 im0 sp0) : ∃ s, sn0 = nI s ∧ s ≤ ch := by
  obtain ⟨e, s, ee, es, he, hs, hv⟩ := h
  exact ⟨s, es, hs⟩
theorem CInv_chg {y y' : Sy} {B B' ch ch' : Nat} {ed sn wz ws ce cc : Int32} {pa wa : Nat → Int32} {cw cs cg ca : Nat → Int64} (h : CInv y B ch ed sn wz ws pa wa ce cc cw cs cg ca) (hB : B ≤ B') (hs : ∃ s, sn = nI s ∧ s ≤ ch) (hl : ch < ch') (hl2 : ch' < 2147483648) : CInv y' B' ch' ed sn wz ws pa wa ce cc cw cs cg ca := by
  obtain ⟨ec, ct, e1, e2, h1, ⟨e, e3, h2, h3⟩, h4⟩ := h
  obtain ⟨s, es, hs⟩ := hs
  refine ⟨ec, ct, e1, e2, h1, ⟨e, e3, h2, by omega⟩, fun _ g => ?_⟩
  have := q_nat (by omega) (by omega) es g
  omega
theorem LnI_chg {y y' : Sy} {nc B B' ch ch' : Nat} {ed sn wz ws le : Int32} {pa wa lg la : Nat → Int32} (h : LnI y nc B ch ed sn wz ws pa wa le lg la) (hB : B ≤ B') (hs : ∃ s, sn = nI s ∧ s ≤ ch) (hl : ch < ch') (hl2 : ch' < 2147483648) : LnI y' nc B' ch' ed sn wz ws pa wa le lg la := by
  obtain ⟨f, e1, ⟨e, e3, h2, h3⟩, h4⟩ := h
  obtain ⟨s, es, hs⟩ := hs
  refine ⟨f, e1, ⟨e, e3, h2, by omega⟩, fun _ g => ?_⟩
  have := q_nat (by omega) (by omega) es g
  omega
theorem LnI_up {y : Sy} {nc B B' ch : Nat} {ed sn wz ws le ed' sn' wz' ws' : Int32} {pa wa pa' wa' lg la : Nat → Int32} (h : LnI y nc B ch ed sn wz ws pa wa le lg la) (hB : B + 1 ≤ B') (hl : B' < 2147483648) (U : PUp ed sn wz ws pa wa ed' sn' wz' ws' pa' wa') : LnI y nc B' ch ed' sn' wz' ws' pa' wa' le lg la := by
  obtain ⟨f, e1, ⟨e, e3, h2, h3⟩, h4⟩ := h
  rcases U with ⟨u1, u2, u3, u4, u5, u6⟩ | ⟨g, u1, u2⟩
  · subst u1; subst u2; subst u3; subst u4; subst u5; subst u6
    exact ⟨f, e1, ⟨e, e3, h2, by omega⟩, h4⟩
  · have e4 : nI (g + 1) = nI (e + 1) := by
      rw [← nI_1, ← nI_1, ← u1, ← e3]
    refine ⟨f, e1, ⟨e + 1, by rw [u2, e4], by omega, by omega⟩, fun g => ?_⟩
    rw [u2, e4] at g
    have := (q_eq (by omega) (by omega)).1 g
    omega
theorem LInv_chg {w w' : Nat → Nat} {ns ns' t t' ch ch' : Nat} {sn rz : Int32} {rl rb : Nat → Int32} {wd : Nat → Int64} {li : Nat → Int32} (h : LInv w ns t ch sn rz rl rb wd li) (hl : ch < ch') (hl2 : ch' < 2147483648) : LInv w' ns' t' ch' sn rz rl rb wd li := by
  obtain ⟨h1, Wd, h2, h3, h4⟩ := h
  refine ⟨h1, Wd, h2, ?_, fun g => ?_⟩
  · rcases h3 with e | ⟨s, hs, e⟩
    · exact .inl e
    · exact .inr ⟨s, by omega, e⟩
  · rcases h3 with e | ⟨s, hs, e⟩
    · rw [e] at g; exact ((q_neg' hl2).1 g).elim
    · have := q_nat (by omega) (by omega) e g
      omega
