def wX5_become_L18  (E18 : Int32 → (Nat → Int32) → Prop) (i18_4 : Int32) (A_ways_18 : Nat → Int32) : Prop :=
  ∀ P18 : Int32 → (Nat → Int32) → Prop, (∀ (i18_4 : Int32) (A_ways_18 : Nat → Int32), (((18 : Int32) ≤ i18_4 → E18 i18_4 A_ways_18) ∧ (¬ (18 : Int32) ≤ i18_4 → (vp_in i18_4 18 ∧ (∀ g3 : Nat → Int32, g3 = upd A_ways_18 i18_4.toNatClampNeg (0 : Int32) → (∀ x4 : Int32, x4 = i18_4 + (1 : Int32) → P18 x4 g3))))) → P18 i18_4 A_ways_18) → P18 i18_4 A_ways_18
def wX5_become (p0 : Int32) (p1 : Int32) (p2 : Int32) (F_states : Int32) (F_marks : Int32) (F_takes : Int32) (F_changes : Int32) (A_ways : Nat → Int32) (K : Int32 → Int32 → Int32 → Int32 → (Nat → Int32) → Prop) : Prop :=
  (wX5_become_L18  (fun i18_4 A_ways_18 => (∀ x2 : Int32, x2 = (F_changes + (1 : Int32)) → K p0 p1 p2 x2 A_ways_18)) (0 : Int32) A_ways)
abbrev rmX5_become : Room := { frames := 0, cells := 0, slots := 0, locals := 0 }
theorem nd_X5_become : yX5_become.cls = RX5 ∧ yX5_become.cls ≠ "java/lang/invoke/MethodHandle" ∧ yX5_become.cls ≠ "java/lang/invoke/VarHandle" ∧ (parseMethodDescriptor yX5_become.desc).map (fun d => d.parameters.length) = some 3 := by decide +kernel
theorem hkX5_become_X5 : ∀ w ∈ u_ws RX5 TX5 5, w ∈ wsX5_become := fun w h => List.mem_cons_of_mem _ (inlX5 w h)
theorem hfX5_become_15 : (Cond.fieldLink RX5 15 "NestReaders$Reader" "states" "I") ∈ wsX5_become := List.mem_cons_of_mem _ m3_16
theorem hfX5_become_19 : (Cond.fieldLink RX5 19 "NestReaders$Reader" "marks" "I") ∈ wsX5_become := List.mem_cons_of_mem _ m3_17
theorem hfX5_become_22 : (Cond.fieldLink RX5 22 "NestReaders$Reader" "takes" "I") ∈ wsX5_become := List.mem_cons_of_mem _ m3_18
theorem hfX5_become_11 : (Cond.fieldLink RX5 11 "NestReaders$Reader" "ways" "[I") ∈ wsX5_become := List.mem_cons_of_mem _ m3_15
theorem hfX5_become_25 : (Cond.fieldLink RX5 25 "NestReaders$Reader" "changes" "I") ∈ wsX5_become := List.mem_cons_of_mem _ m3_19
set_option maxHeartbeats 4000000 in
set_option maxRecDepth 100000 in
theorem c_X5_become (l : Launch) (G : va_G) (cI cJ cZ : ClassId) (q_t q_t_ways : Nat) (sz : Nat) (F_states : Int32) (F_marks : Int32) (F_takes : Int32) (F_changes : Int32) (A_ways : Nat → Int32) (p0 : Int32) (p1 : Int32) (p2 : Int32) {K : Int32 → Int32 → Int32 → Int32 → (Nat → Int32) → Prop} (hw : wX5_become p0 p1 p2 F_states F_marks F_takes F_changes A_ways K) : Met l yX5_become wsX5_become rmX5_become (ms_Pz G (ms_T cI cJ cZ) [(q_t, .inr (5, [.ref q_t_ways, .int F_states, .int F_marks, .int F_takes, .int F_changes])), (q_t_ways, .inl (cI, 18, .inl A_ways))] sz [.ref q_t, .int p0, .int p1, .int p2]) (ms_Wv G (ms_T cI cJ cZ) (fun (u : Int32 × Int32 × Int32 × Int32 × (Nat → Int32)) => K u.1 u.2.1 u.2.2.1 u.2.2.2.1 u.2.2.2.2) (fun u : Int32 × Int32 × Int32 × Int32 × (Nat → Int32) => [(q_t, .inr (5, [.ref q_t_ways, .int u.1, .int u.2.1, .int u.2.2.1, .int u.2.2.2.1])), (q_t_ways, .inl (cI, 18, .inl u.2.2.2.2))]) (va_A [(q_t, .inr (5, [.ref q_t_ways, .int F_states, .int F_marks, .int F_takes, .int F_changes])), (q_t_ways, .inl (cI, 18, .inl A_ways))] sz)) 0 0 (va_A [(q_t, .inr (5, [.ref q_t_ways, .int F_states, .int F_marks, .int F_takes, .int F_changes])), (q_t_ways, .inl (cI, 18, .inl A_ways))] sz) := by
  refine ms_tv (cc := cX5_become) (maxL := 5) (by decide) rfl (Nat.le_of_ble_eq_true rfl) ?_
  intro p e s m args below meth c Q A hx hb hml hown hts hK hP hD hS hA hRet ls hl
  have hl : lv_has ls 5 [(0, .ref q_t), (1, .int p0), (2, .int p1), (3, .int p2)] := hl
  have hown : s.vm.findClass RX5 = some m.cls := hown
  refine lv_aload_n hx hb dX5_become_0 rfl (lv_at hl 0 rfl) ?_
  refine lv_iload_n hx hb dX5_become_1 rfl (lv_at hl 1 rfl) ?_
  refine va_put (D := G) (ci := 5) (v := .int p0) (ty := .int) (C := RX5) (T := TX5) (N := 5) hx hb hts hkX5_become_X5 tyX5 tyX5_ok nmX5 hown hK hP hD hS 0 rfl rfl 1 (by decide) (hts (.fieldLink RX5 15 "NestReaders$Reader" "states" "I") hfX5_become_15) (fun _ h9 => h9) rfl (by decide +kernel) rfl rfl (Nat.le_of_ble_eq_true rfl) dX5_become_2 (fun H locs hP hD hS => ?_)
  have hP : va_P G vwCl [(q_t, .inr (5, [.ref q_t_ways, .int p0, .int F_marks, .int F_takes, .int F_changes])), (q_t_ways, .inl (cI, 18, .inl A_ways))] H := hP
  have hD : va_D A [(q_t, .inr (5, [.ref q_t_ways, .int p0, .int F_marks, .int F_takes, .int F_changes])), (q_t_ways, .inl (cI, 18, .inl A_ways))] := hD
  refine lv_aload_n hx hb dX5_become_5 rfl (lv_at hl 0 rfl) ?_
  refine lv_iload_n hx hb dX5_become_6 rfl (lv_at hl 2 rfl) ?_
  refine va_put (D := G) (ci := 5) (v := .int p1) (ty := .int) (C := RX5) (T := TX5) (N := 5) hx hb hts hkX5_become_X5 tyX5 tyX5_ok nmX5 hown hK hP hD hS 0 rfl rfl 2 (by decide) (hts (.fieldLink RX5 19 "NestReaders$Reader" "marks" "I") hfX5_become_19) (fun _ h9 => h9) rfl (by decide +kernel) rfl rfl (Nat.le_of_ble_eq_true rfl) dX5_become_7 (fun H locs hP hD hS => ?_)
  have hP : va_P G vwCl [(q_t, .inr (5, [.ref q_t_ways, .int p0, .int p1, .int F_takes, .int F_changes])), (q_t_ways, .inl (cI, 18, .inl A_ways))] H := hP
  have hD : va_D A [(q_t, .inr (5, [.ref q_t_ways, .int p0, .int p1, .int F_takes, .int F_changes])), (q_t_ways, .inl (cI, 18, .inl A_ways))] := hD
  refine lv_aload_n hx hb dX5_become_10 rfl (lv_at hl 0 rfl) ?_
  refine lv_iload_n hx hb dX5_become_11 rfl (lv_at hl 3 rfl) ?_
  refine va_put (D := G) (ci := 5) (v := .int p2) (ty := .int) (C := RX5) (T := TX5) (N := 5) hx hb hts hkX5_become_X5 tyX5 tyX5_ok nmX5 hown hK hP hD hS 0 rfl rfl 3 (by decide) (hts (.fieldLink RX5 22 "NestReaders$Reader" "takes" "I") hfX5_become_22) (fun _ h9 => h9) rfl (by decide +kernel) rfl rfl (Nat.le_of_ble_eq_true rfl) dX5_become_12 (fun H locs hP hD hS => ?_)
  have hP : va_P G vwCl [(q_t, .inr (5, [.ref q_t_ways, .int p0, .int p1, .int p2, .int F_changes])), (q_t_ways, .inl (cI, 18, .inl A_ways))] H := hP
  have hD : va_D A [(q_t, .inr (5, [.ref q_t_ways, .int p0, .int p1, .int p2, .int F_changes])), (q_t_ways, .inl (cI, 18, .inl A_ways))] := hD
  refine lv_iconst (v := 0) hx hb dX5_become_15 (by decide) ?_
  refine lv_istore (lv' := [(4, .int (0 : Int32)), (0, .ref q_t), (1, .int p0), (2, .int p1), (3, .int p2)]) hx hb dX5_become_16 hl (by decide) rfl (fun ls hl => ?_)
  refine hw (fun i18_4 A_ways_18 => ∀ (H : Heap) (locs : List Loc), va_P G vwCl [(q_t, .inr (5, [.ref q_t_ways, .int p0, .int p1, .int p2, .int F_changes])), (q_t_ways, .inl (cI, 18, .inl A_ways_18))] H → va_D A [(q_t, .inr (5, [.ref q_t_ways, .int p0, .int p1, .int p2, .int F_changes])), (q_t_ways, .inl (cI, 18, .inl A_ways_18))] → va_S A s.heap H locs → ∀ ls : Array Slot, lv_has ls 5 [(0, .ref q_t), (4, .int i18_4)] → W p l e rmX5_become s m args below meth c H locs 0 0 Q (F0 m 18 ls [])) (fun i18_4 A_ways_18 hw H locs hP hD hS ls hl => ?_) H locs hP hD hS ls (lv_sub hl [1, 0] rfl)
  refine lv_iload hx hb dX5_become_18 (lv_at hl 1 rfl) ?_
  refine lv_aload_n hx hb dX5_become_20 rfl (lv_at hl 0 rfl) ?_
  refine va_get (D := G) (ci := 5) (v := .ref q_t_ways) (C := RX5) (T := TX5) (N := 5) hx hb hts hkX5_become_X5 hown hK hP 0 rfl rfl 0 (by decide) (hts (.fieldLink RX5 11 "NestReaders$Reader" "ways" "[I") hfX5_become_11) (fun _ h9 => h9) rfl dX5_become_21 ?_
  refine va_alen (D := G) (v := (18 : Int32)) hx hb hK hP 1 0 rfl rfl rfl dX5_become_24 ?_
  refine lv_icmp_ge (tgt := 42) hx hb dX5_become_25 (by decide) (fun c1 => ?_) (fun c1 => ?_)
  · have hw := hw.1 c1
    refine lv_aload_n hx hb dX5_become_42 rfl (lv_at hl 0 rfl) ?_
    refine lv_dup hx hb dX5_become_43 rfl ?_
    refine va_get (D := G) (ci := 5) (v := .int F_changes) (C := RX5) (T := TX5) (N := 5) hx hb hts hkX5_become_X5 hown hK hP 0 rfl rfl 4 (by decide) (hts (.fieldLink RX5 25 "NestReaders$Reader" "changes" "I") hfX5_become_25) (fun _ h9 => h9) rfl dX5_become_44 ?_
    refine lv_iconst (v := 1) hx hb dX5_become_47 (by decide) ?_
    refine lv_iadd hx hb dX5_become_48 ?_
    refine lv_topi (fun x2 ex2 => ?_)
    have hw := hw x2 ex2
    refine va_put (D := G) (ci := 5) (v := .int x2) (ty := .int) (C := RX5) (T := TX5) (N := 5) hx hb hts hkX5_become_X5 tyX5 tyX5_ok nmX5 hown hK hP hD hS 0 rfl rfl 4 (by decide) (hts (.fieldLink RX5 25 "NestReaders$Reader" "changes" "I") hfX5_become_25) (fun _ h9 => h9) rfl (by decide +kernel) rfl rfl (Nat.le_of_ble_eq_true rfl) dX5_become_49 (fun H locs hP hD hS => ?_)
    have hP : va_P G vwCl [(q_t, .inr (5, [.ref q_t_ways, .int p0, .int p1, .int p2, .int x2])), (q_t_ways, .inl (cI, 18, .inl A_ways_18))] H := hP
    have hD : va_D A [(q_t, .inr (5, [.ref q_t_ways, .int p0, .int p1, .int p2, .int x2])), (q_t_ways, .inl (cI, 18, .inl A_ways_18))] := hD
    exact hRet ⟨p0, p1, p2, x2, A_ways_18⟩ H locs _ _ hw hP hD hS dX5_become_52
  · have hw := hw.2 c1
    refine lv_aload_n hx hb dX5_become_28 rfl (lv_at hl 0 rfl) ?_
    refine va_get (D := G) (ci := 5) (v := .ref q_t_ways) (C := RX5) (T := TX5) (N := 5) hx hb hts hkX5_become_X5 hown hK hP 0 rfl rfl 0 (by decide) (hts (.fieldLink RX5 11 "NestReaders$Reader" "ways" "[I") hfX5_become_11) (fun _ h9 => h9) rfl dX5_become_29 ?_
    refine lv_iload hx hb dX5_become_32 (lv_at hl 1 rfl) ?_
    refine lv_iconst (v := 0) hx hb dX5_become_34 (by decide) ?_
    refine ms_iast hx hb hK hP hD hS 1 0 rfl rfl hw.1 dX5_become_35 (fun g3 H locs eg3 hP hD hS => ?_)
    have hw := hw.2 g3 eg3
    have hP : va_P G vwCl [(q_t, .inr (5, [.ref q_t_ways, .int p0, .int p1, .int p2, .int F_changes])), (q_t_ways, .inl (cI, 18, .inl g3))] H := hP
    have hD : va_D A [(q_t, .inr (5, [.ref q_t_ways, .int p0, .int p1, .int p2, .int F_changes])), (q_t_ways, .inl (cI, 18, .inl g3))] := hD
    obtain ⟨x4, ex4⟩ : ∃ y : Int32, y = i18_4 + (1 : Int32) := ⟨_, rfl⟩
    have hw := hw x4 ex4
    refine lv_iinc (v := x4) (lv' := [(4, .int x4), (0, .ref q_t)]) hx hb dX5_become_36 hl (k := 1) rfl (by rw [ex4]; rfl) (by decide) rfl (fun ls hl => ?_)
    refine lv_goto (tgt := 18) hx hb dX5_become_39 (by decide) ?_
    exact hw H locs hP hD hS ls (lv_sub hl [1, 0] rfl)
def wX5_changes (F_changes : Int32) (K : Int32 → Prop) : Prop :=
  K F_changes
abbrev rmX5_changes : Room := { frames := 0, cells := 0, slots := 0, locals := 0 }
theorem nd_X5_changes : yX5_changes.cls = RX5 ∧ yX5_changes.cls ≠ "java/lang/invoke/MethodHandle" ∧ yX5_changes.cls ≠ "java/lang/invoke/VarHandle" ∧ (parseMethodDescriptor yX5_changes.desc).map (fun d => d.parameters.length) = some 0 := by decide +kernel
theorem hkX5_changes_X5 : ∀ w ∈ u_ws RX5 TX5 5, w ∈ wsX5_changes := fun w h => List.mem_cons_of_mem _ (inlX5 w h)
theorem hfX5_changes_25 : (Cond.fieldLink RX5 25 "NestReaders$Reader" "changes" "I") ∈ wsX5_changes := List.mem_cons_of_mem _ m3_19
set_option maxHeartbeats 4000000 in
set_option maxRecDepth 100000 in
theorem c_X5_changes (l : Launch) (G : va_G) (cI cJ cZ : ClassId) (q_t q_t_ways : Nat) (F_states : Int32) (F_marks : Int32) (F_takes : Int32) (F_changes : Int32) {K : Int32 → Prop} (hw : wX5_changes F_changes K) : Met l yX5_changes wsX5_changes rmX5_changes (ms_P G (ms_T cI cJ cZ) [(q_t, .inr (5, [.ref q_t_ways, .int F_states, .int F_marks, .int F_takes, .int F_changes]))] [.ref q_t]) (ms_Qi K) 0 0 ms_N := by
  refine ms_si (cc := cX5_changes) (maxL := 1) (ty := .int) (by decide) rfl (Nat.le_of_ble_eq_true rfl) ?_
  intro p e s m args below meth c Q hx hb hml hown hts hK hP hD hRet ls hl
  have hl : lv_has ls 1 [(0, .ref q_t)] := hl
  have hown : s.vm.findClass RX5 = some m.cls := hown
  refine lv_aload_n hx hb dX5_changes_0 rfl (lv_at hl 0 rfl) ?_
  refine va_get (D := G) (ci := 5) (v := .int F_changes) (C := RX5) (T := TX5) (N := 5) hx hb hts hkX5_changes_X5 hown hK hP 0 rfl rfl 4 (by decide) (hts (.fieldLink RX5 25 "NestReaders$Reader" "changes" "I") hfX5_changes_25) (fun _ h9 => h9) rfl dX5_changes_1 ?_
  exact hRet F_changes _ _ hw (vp_nar_int _) dX5_changes_4
def wX5_isState (p0 : Int32) (F_states : Int32) (K : Int32 → Prop) : Prop :=
  ((p0 < (0 : Int32) → K (0 : Int32)) ∧ (¬ p0 < (0 : Int32) → ((F_states ≤ p0 → K (0 : Int32)) ∧ (¬ F_states ≤ p0 → K (1 : Int32)))))
abbrev rmX5_isState : Room := { frames := 0, cells := 0, slots := 0, locals := 0 }
theorem nd_X5_isState : yX5_isState.cls = RX5 ∧ yX5_isState.cls ≠ "java/lang/invoke/MethodHandle" ∧ yX5_isState.cls ≠ "java/lang/invoke/VarHandle" ∧ (parseMethodDescriptor yX5_isState.desc).map (fun d => d.parameters.length) = some 1 := by decide +kernel
theorem hkX5_isState_X5 : ∀ w ∈ u_ws RX5 TX5 5, w ∈ wsX5_isState := fun w h => List.mem_cons_of_mem _ (inlX5 w h)
theorem hfX5_isState_15 : (Cond.fieldLink RX5 15 "NestReaders$Reader" "states" "I") ∈ wsX5_isState := List.mem_cons_of_mem _ m3_16
set_option maxHeartbeats 4000000 in
set_option maxRecDepth 100000 in
theorem c_X5_isState (l : Launch) (G : va_G) (cI cJ cZ : ClassId) (q_t q_t_ways : Nat) (F_states : Int32) (F_marks : Int32) (F_takes : Int32) (F_changes : Int32) (p0 : Int32) {K : Int32 → Prop} (hw : wX5_isState p0 F_states K) : Met l yX5_isState wsX5_isState rmX5_isState (ms_P G (ms_T cI cJ cZ) [(q_t, .inr (5, [.ref q_t_ways, .int F_states, .int F_marks, .int F_takes, .int F_changes]))] [.ref q_t, .int p0]) (ms_Qi (fun r : Int32 => ms_z r ∧ K r)) 0 0 ms_N := by
  refine ms_si (cc := cX5_isState) (maxL := 2) (ty := .boolean) (by decide) rfl (Nat.le_of_ble_eq_true rfl) ?_
  intro p e s m args below meth c Q hx hb hml hown hts hK hP hD hRet ls hl
  have hl : lv_has ls 2 [(0, .ref q_t), (1, .int p0)] := hl
  have hown : s.vm.findClass RX5 = some m.cls := hown
  refine lv_iload_n hx hb dX5_isState_0 rfl (lv_at hl 1 rfl) ?_
  refine lv_if_lt (tgt := 16) hx hb dX5_isState_1 (by decide) (fun c1 => ?_) (fun c1 => ?_)
  · have hw := hw.1 c1
    refine lv_iconst (v := 0) hx hb dX5_isState_16 (by decide) ?_
    exact hRet (0 : Int32) _ _ ⟨ms_z0, hw⟩ ms_z0 dX5_isState_17
  · have hw := hw.2 c1
    refine lv_iload_n hx hb dX5_isState_4 rfl (lv_at hl 1 rfl) ?_
    refine lv_aload_n hx hb dX5_isState_5 rfl (lv_at hl 0 rfl) ?_
    refine va_get (D := G) (ci := 5) (v := .int F_states) (C := RX5) (T := TX5) (N := 5) hx hb hts hkX5_isState_X5 hown hK hP 0 rfl rfl 1 (by decide) (hts (.fieldLink RX5 15 "NestReaders$Reader" "states" "I") hfX5_isState_15) (fun _ h9 => h9) rfl dX5_isState_6 ?_
    refine lv_icmp_ge (tgt := 16) hx hb dX5_isState_9 (by decide) (fun c2 => ?_) (fun c2 => ?_)
    · have hw := hw.1 c2
      refine lv_iconst (v := 0) hx hb dX5_isState_16 (by decide) ?_
      exact hRet (0 : Int32) _ _ ⟨ms_z0, hw⟩ ms_z0 dX5_isState_17
    · have hw := hw.2 c2
      refine lv_iconst (v := 1) hx hb dX5_isState_12 (by decide) ?_
      refine lv_goto (tgt := 17) hx hb dX5_isState_13 (by decide) ?_
      exact hRet (1 : Int32) _ _ ⟨ms_z1, hw⟩ ms_z1 dX5_isState_17
def wX5_isMark (p0 : Int32) (F_marks : Int32) (K : Int32 → Prop) : Prop :=
  ((p0 < (0 : Int32) → K (0 : Int32)) ∧ (¬ p0 < (0 : Int32) → ((F_marks ≤ p0 → K (0 : Int32)) ∧ (¬ F_marks ≤ p0 → K (1 : Int32)))))
abbrev rmX5_isMark : Room := { frames := 0, cells := 0, slots := 0, locals := 0 }
theorem nd_X5_isMark : yX5_isMark.cls = RX5 ∧ yX5_isMark.cls ≠ "java/lang/invoke/MethodHandle" ∧ yX5_isMark.cls ≠ "java/lang/invoke/VarHandle" ∧ (parseMethodDescriptor yX5_isMark.desc).map (fun d => d.parameters.length) = some 1 := by decide +kernel
theorem hkX5_isMark_X5 : ∀ w ∈ u_ws RX5 TX5 5, w ∈ wsX5_isMark := fun w h => List.mem_cons_of_mem _ (inlX5 w h)
theorem hfX5_isMark_19 : (Cond.fieldLink RX5 19 "NestReaders$Reader" "marks" "I") ∈ wsX5_isMark := List.mem_cons_of_mem _ m3_17
set_option maxHeartbeats 4000000 in
set_option maxRecDepth 100000 in
theorem c_X5_isMark (l : Launch) (G : va_G) (cI cJ cZ : ClassId) (q_t q_t_ways : Nat) (F_states : Int32) (F_marks : Int32) (F_takes : Int32) (F_changes : Int32) (p0 : Int32) {K : Int32 → Prop} (hw : wX5_isMark p0 F_marks K) : Met l yX5_isMark wsX5_isMark rmX5_isMark (ms_P G (ms_T cI cJ cZ) [(q_t, .inr (5, [.ref q_t_ways, .int F_states, .int F_marks, .int F_takes, .int F_changes]))] [.ref q_t, .int p0]) (ms_Qi (fun r : Int32 => ms_z r ∧ K r)) 0 0 ms_N := by
  refine ms_si (cc := cX5_isMark) (maxL := 2) (ty := .boolean) (by decide) rfl (Nat.le_of_ble_eq_true rfl) ?_
  intro p e s m args below meth c Q hx hb hml hown hts hK hP hD hRet ls hl
  have hl : lv_has ls 2 [(0, .ref q_t), (1, .int p0)] := hl
  have hown : s.vm.findClass RX5 = some m.cls := hown
  refine lv_iload_n hx hb dX5_isMark_0 rfl (lv_at hl 1 rfl) ?_
  refine lv_if_lt (tgt := 16) hx hb dX5_isMark_1 (by decide) (fun c1 => ?_) (fun c1 => ?_)
  · have hw := hw.1 c1
    refine lv_iconst (v := 0) hx hb dX5_isMark_16 (by decide) ?_
    exact hRet (0 : Int32) _ _ ⟨ms_z0, hw⟩ ms_z0 dX5_isMark_17
  · have hw := hw.2 c1
    refine lv_iload_n hx hb dX5_isMark_4 rfl (lv_at hl 1 rfl) ?_
    refine lv_aload_n hx hb dX5_isMark_5 rfl (lv_at hl 0 rfl) ?_
    refine va_get (D := G) (ci := 5) (v := .int F_marks) (C := RX5) (T := TX5) (N := 5) hx hb hts hkX5_isMark_X5 hown hK hP 0 rfl rfl 2 (by decide) (hts (.fieldLink RX5 19 "NestReaders$Reader" "marks" "I") hfX5_isMark_19) (fun _ h9 => h9) rfl dX5_isMark_6 ?_
    refine lv_icmp_ge (tgt := 16) hx hb dX5_isMark_9 (by decide) (fun c2 => ?_) (fun c2 => ?_)
    · have hw := hw.1 c2
      refine lv_iconst (v := 0) hx hb dX5_isMark_16 (by decide) ?_
      exact hRet (0 : Int32) _ _ ⟨ms_z0, hw⟩ ms_z0 dX5_isMark_17
    · have hw := hw.2 c2
      refine lv_iconst (v := 1) hx hb dX5_isMark_12 (by decide) ?_
      refine lv_goto (tgt := 17) hx hb dX5_isMark_13 (by decide) ?_
      exact hRet (1 : Int32) _ _ ⟨ms_z1, hw⟩ ms_z1 dX5_isMark_17
def wX5_moveCount_L4 (A_ways : Nat → Int32) (E4 : Int32 → Int32 → Prop) (i4_1 : Int32) (i4_2 : Int32) : Prop :=
  ∀ P4 : Int32 → Int32 → Prop, (∀ (i4_1 : Int32) (i4_2 : Int32), (((18 : Int32) ≤ i4_2 → E4 i4_1 i4_2) ∧ (¬ (18 : Int32) ≤ i4_2 → (vp_in i4_2 18 ∧ (wJ6_bitCount_0f7a4 (A_ways i4_2.toNatClampNeg) (fun r2 => (∀ x3 : Int32, x3 = (i4_1 + r2) → (∀ x4 : Int32, x4 = i4_2 + (1 : Int32) → P4 x3 x4))))))) → P4 i4_1 i4_2) → P4 i4_1 i4_2
def wX5_moveCount (A_ways : Nat → Int32) (K : Int32 → Prop) : Prop :=
  (wX5_moveCount_L4 A_ways (fun i4_1 i4_2 => K i4_1) (0 : Int32) (0 : Int32))
abbrev rmX5_moveCount : Room := { frames := 1, cells := 0, slots := 0, locals := 20 }
theorem nd_X5_moveCount : yX5_moveCount.cls = RX5 ∧ yX5_moveCount.cls ≠ "java/lang/invoke/MethodHandle" ∧ yX5_moveCount.cls ≠ "java/lang/invoke/VarHandle" ∧ (parseMethodDescriptor yX5_moveCount.desc).map (fun d => d.parameters.length) = some 0 := by decide +kernel
theorem hkX5_moveCount_X5 : ∀ w ∈ u_ws RX5 TX5 5, w ∈ wsX5_moveCount := fun w h => List.mem_cons_of_mem _ (inlX5 w h)
theorem hfX5_moveCount_11 : (Cond.fieldLink RX5 11 "NestReaders$Reader" "ways" "[I") ∈ wsX5_moveCount := List.mem_cons_of_mem _ m3_15
set_option maxHeartbeats 4000000 in
set_option maxRecDepth 100000 in
theorem c_X5_moveCount (l : Launch) (G : va_G) (cI cJ cZ : ClassId) (q_t q_t_ways : Nat) (F_states : Int32) (F_marks : Int32) (F_takes : Int32) (F_changes : Int32) (A_ways : Nat → Int32) {K : Int32 → Prop} (hw : wX5_moveCount A_ways K) : Met l yX5_moveCount wsX5_moveCount rmX5_moveCount (ms_P G (ms_T cI cJ cZ) [(q_t, .inr (5, [.ref q_t_ways, .int F_states, .int F_marks, .int F_takes, .int F_changes])), (q_t_ways, .inl (cI, 18, .inl A_ways))] [.ref q_t]) (ms_Qi K) 0 0 ms_N := by
  refine ms_si (cc := cX5_moveCount) (maxL := 3) (ty := .int) (by decide) rfl (Nat.le_of_ble_eq_true rfl) ?_
  intro p e s m args below meth c Q hx hb hml hown hts hK hP hD hRet ls hl
  have hl : lv_has ls 3 [(0, .ref q_t)] := hl
  have hown : s.vm.findClass RX5 = some m.cls := hown
  refine lv_iconst (v := 0) hx hb dX5_moveCount_0 (by decide) ?_
  refine lv_istore_n (lv' := [(1, .int (0 : Int32)), (0, .ref q_t)]) hx hb dX5_moveCount_1 rfl hl (by decide) rfl (fun ls hl => ?_)
  refine lv_iconst (v := 0) hx hb dX5_moveCount_2 (by decide) ?_
  refine lv_istore_n (lv' := [(2, .int (0 : Int32)), (1, .int (0 : Int32)), (0, .ref q_t)]) hx hb dX5_moveCount_3 rfl hl (by decide) rfl (fun ls hl => ?_)
  refine hw (fun i4_1 i4_2 => ∀ ls : Array Slot, lv_has ls 3 [(0, .ref q_t), (1, .int i4_1), (2, .int i4_2)] → W p l e rmX5_moveCount s m args below meth c s.heap [] 0 0 Q (F0 m 4 ls [])) (fun i4_1 i4_2 hw ls hl => ?_) ls (lv_sub hl [2, 1, 0] rfl)
  refine lv_iload_n hx hb dX5_moveCount_4 rfl (lv_at hl 2 rfl) ?_
  refine lv_aload_n hx hb dX5_moveCount_5 rfl (lv_at hl 0 rfl) ?_
  refine va_get (D := G) (ci := 5) (v := .ref q_t_ways) (C := RX5) (T := TX5) (N := 5) hx hb hts hkX5_moveCount_X5 hown hK hP 0 rfl rfl 0 (by decide) (hts (.fieldLink RX5 11 "NestReaders$Reader" "ways" "[I") hfX5_moveCount_11) (fun _ h9 => h9) rfl dX5_moveCount_6 ?_
  refine va_alen (D := G) (v := (18 : Int32)) hx hb hK hP 1 0 rfl rfl rfl dX5_moveCount_9 ?_
  refine lv_icmp_ge (tgt := 31) hx hb dX5_moveCount_10 (by decide) (fun c1 => ?_) (fun c1 => ?_)
  · have hw := hw.1 c1
    refine lv_iload_n hx hb dX5_moveCount_31 rfl (lv_at hl 1 rfl) ?_
    exact hRet i4_1 _ _ hw (vp_nar_int _) dX5_moveCount_32
  · have hw := hw.2 c1
    refine lv_iload_n hx hb dX5_moveCount_13 rfl (lv_at hl 1 rfl) ?_
    refine lv_aload_n hx hb dX5_moveCount_14 rfl (lv_at hl 0 rfl) ?_
    refine va_get (D := G) (ci := 5) (v := .ref q_t_ways) (C := RX5) (T := TX5) (N := 5) hx hb hts hkX5_moveCount_X5 hown hK hP 0 rfl rfl 0 (by decide) (hts (.fieldLink RX5 11 "NestReaders$Reader" "ways" "[I") hfX5_moveCount_11) (fun _ h9 => h9) rfl dX5_moveCount_15 ?_
    refine lv_iload_n hx hb dX5_moveCount_18 rfl (lv_at hl 2 rfl) ?_
    refine va_iald (D := G) hx hb hK hP 1 0 rfl rfl hw.1 dX5_moveCount_19 ?_
    have hw := hw.2
    refine ms_cSi ⟨hx, hb, hml, hown, hts⟩ hK hP hD (c_J6_bitCount_0f7a4 l G cI cJ cZ (A_ways i4_2.toNatClampNeg) hw) gX5_moveCount_J6_bitCount_0f7a4 rfl nd_J6_bitCount_0f7a4 ⟨rfl, rfl⟩ rfl ⟨Nat.le_of_ble_eq_true rfl, Nat.le_of_ble_eq_true rfl⟩ hl.1 (rest := [.int i4_1]) rfl (Nat.le_of_ble_eq_true rfl)  [] rfl rfl dX5_moveCount_20 (fun r2 hw => ?_)
    refine lv_iadd hx hb dX5_moveCount_23 ?_
    refine lv_topi (fun x3 ex3 => ?_)
    have hw := hw x3 ex3
    refine lv_istore_n (lv' := [(1, .int x3), (0, .ref q_t), (2, .int i4_2)]) hx hb dX5_moveCount_24 rfl hl (by decide) rfl (fun ls hl => ?_)
    obtain ⟨x4, ex4⟩ : ∃ y : Int32, y = i4_2 + (1 : Int32) := ⟨_, rfl⟩
    have hw := hw x4 ex4
    refine lv_iinc (v := x4) (lv' := [(2, .int x4), (1, .int x3), (0, .ref q_t)]) hx hb dX5_moveCount_25 hl (k := 2) rfl (by rw [ex4]; rfl) (by decide) rfl (fun ls hl => ?_)
    refine lv_goto (tgt := 4) hx hb dX5_moveCount_28 (by decide) ?_
    exact hw ls (lv_sub hl [2, 1, 0] rfl)
def wX5_takesAny (p0 : Int32) (F_takes : Int32) (K : Int32 → Prop) : Prop :=
  (((p0 &&& F_takes) = (0 : Int32) → K (0 : Int32)) ∧ (¬ (p0 &&& F_takes) = (0 : Int32) → K (1 : Int32)))
abbrev rmX5_takesAny : Room := { frames := 0, cells := 0, slots := 0, locals := 0 }
theorem nd_X5_takesAny : yX5_takesAny.cls = RX5 ∧ yX5_takesAny.cls ≠ "java/lang/invoke/MethodHandle" ∧ yX5_takesAny.cls ≠ "java/lang/invoke/VarHandle" ∧ (parseMethodDescriptor yX5_takesAny.desc).map (fun d => d.parameters.length) = some 1 := by decide +kernel
theorem hkX5_takesAny_X5 : ∀ w ∈ u_ws RX5 TX5 5, w ∈ wsX5_takesAny := fun w h => List.mem_cons_of_mem _ (inlX5 w h)
theorem hfX5_takesAny_22 : (Cond.fieldLink RX5 22 "NestReaders$Reader" "takes" "I") ∈ wsX5_takesAny := List.mem_cons_of_mem _ m3_18
set_option maxHeartbeats 4000000 in
set_option maxRecDepth 100000 in
theorem c_X5_takesAny (l : Launch) (G : va_G) (cI cJ cZ : ClassId) (q_t q_t_ways : Nat) (F_states : Int32) (F_marks : Int32) (F_takes : Int32) (F_changes : Int32) (p0 : Int32) {K : Int32 → Prop} (hw : wX5_takesAny p0 F_takes K) : Met l yX5_takesAny wsX5_takesAny rmX5_takesAny (ms_P G (ms_T cI cJ cZ) [(q_t, .inr (5, [.ref q_t_ways, .int F_states, .int F_marks, .int F_takes, .int F_changes]))] [.ref q_t, .int p0]) (ms_Qi (fun r : Int32 => ms_z r ∧ K r)) 0 0 ms_N := by
  refine ms_si (cc := cX5_takesAny) (maxL := 2) (ty := .boolean) (by decide) rfl (Nat.le_of_ble_eq_true rfl) ?_
  intro p e s m args below meth c Q hx hb hml hown hts hK hP hD hRet ls hl
  have hl : lv_has ls 2 [(0, .ref q_t), (1, .int p0)] := hl
  have hown : s.vm.findClass RX5 = some m.cls := hown
  refine lv_iload_n hx hb dX5_takesAny_0 rfl (lv_at hl 1 rfl) ?_
  refine lv_aload_n hx hb dX5_takesAny_1 rfl (lv_at hl 0 rfl) ?_
  refine va_get (D := G) (ci := 5) (v := .int F_takes) (C := RX5) (T := TX5) (N := 5) hx hb hts hkX5_takesAny_X5 hown hK hP 0 rfl rfl 3 (by decide) (hts (.fieldLink RX5 22 "NestReaders$Reader" "takes" "I") hfX5_takesAny_22) (fun _ h9 => h9) rfl dX5_takesAny_2 ?_
  refine lv_iand hx hb dX5_takesAny_5 ?_
  refine lv_if_eq (tgt := 13) hx hb dX5_takesAny_6 (by decide) (fun c1 => ?_) (fun c1 => ?_)
  · have hw := hw.1 c1
    refine lv_iconst (v := 0) hx hb dX5_takesAny_13 (by decide) ?_
    exact hRet (0 : Int32) _ _ ⟨ms_z0, hw⟩ ms_z0 dX5_takesAny_14
  · have hw := hw.2 c1
    refine lv_iconst (v := 1) hx hb dX5_takesAny_9 (by decide) ?_
    refine lv_goto (tgt := 14) hx hb dX5_takesAny_10 (by decide) ?_
    exact hRet (1 : Int32) _ _ ⟨ms_z1, hw⟩ ms_z1 dX5_takesAny_14
def wX5_way (p0 : Int32) (p1 : Int32) (A_ways : Nat → Int32) (K : Int32 → Prop) : Prop :=
  (∀ x1 : Int32, x1 = (((p0 * (3 : Int32)) + p1) + (1 : Int32)) → ((x1 < (0 : Int32) → K (0 : Int32)) ∧ (¬ x1 < (0 : Int32) → (((18 : Int32) ≤ x1 → K (0 : Int32)) ∧ (¬ (18 : Int32) ≤ x1 → (vp_in x1 18 ∧ K (A_ways x1.toNatClampNeg)))))))
abbrev rmX5_way : Room := { frames := 0, cells := 0, slots := 0, locals := 0 }
theorem nd_X5_way : yX5_way.cls = RX5 ∧ yX5_way.cls ≠ "java/lang/invoke/MethodHandle" ∧ yX5_way.cls ≠ "java/lang/invoke/VarHandle" ∧ (parseMethodDescriptor yX5_way.desc).map (fun d => d.parameters.length) = some 2 := by decide +kernel
theorem hkX5_way_X5 : ∀ w ∈ u_ws RX5 TX5 5, w ∈ wsX5_way := fun w h => List.mem_cons_of_mem _ (inlX5 w h)
theorem hfX5_way_11 : (Cond.fieldLink RX5 11 "NestReaders$Reader" "ways" "[I") ∈ wsX5_way := List.mem_cons_of_mem _ m3_15
set_option maxHeartbeats 4000000 in
set_option maxRecDepth 100000 in
theorem c_X5_way (l : Launch) (G : va_G) (cI cJ cZ : ClassId) (q_t q_t_ways : Nat) (F_states : Int32) (F_marks : Int32) (F_takes : Int32) (F_changes : Int32) (A_ways : Nat → Int32) (p0 : Int32) (p1 : Int32) {K : Int32 → Prop} (hw : wX5_way p0 p1 A_ways K) : Met l yX5_way wsX5_way rmX5_way (ms_P G (ms_T cI cJ cZ) [(q_t, .inr (5, [.ref q_t_ways, .int F_states, .int F_marks, .int F_takes, .int F_changes])), (q_t_ways, .inl (cI, 18, .inl A_ways))] [.ref q_t, .int p0, .int p1]) (ms_Qi K) 0 0 ms_N := by
  refine ms_si (cc := cX5_way) (maxL := 4) (ty := .int) (by decide) rfl (Nat.le_of_ble_eq_true rfl) ?_
  intro p e s m args below meth c Q hx hb hml hown hts hK hP hD hRet ls hl
  have hl : lv_has ls 4 [(0, .ref q_t), (1, .int p0), (2, .int p1)] := hl
  have hown : s.vm.findClass RX5 = some m.cls := hown
  refine lv_iload_n hx hb dX5_way_0 rfl (lv_at hl 1 rfl) ?_
  refine lv_iconst (v := 3) hx hb dX5_way_1 (by decide) ?_
  refine lv_imul hx hb dX5_way_2 ?_
  refine lv_iload_n hx hb dX5_way_3 rfl (lv_at hl 2 rfl) ?_
  refine lv_iadd hx hb dX5_way_4 ?_
  refine lv_iconst (v := 1) hx hb dX5_way_5 (by decide) ?_
  refine lv_iadd hx hb dX5_way_6 ?_
  refine lv_topi (fun x1 ex1 => ?_)
  have hw := hw x1 ex1
  refine lv_istore_n (lv' := [(3, .int x1), (0, .ref q_t), (1, .int p0), (2, .int p1)]) hx hb dX5_way_7 rfl hl (by decide) rfl (fun ls hl => ?_)
  refine lv_iload_n hx hb dX5_way_8 rfl (lv_at hl 0 rfl) ?_
  refine lv_if_lt (tgt := 30) hx hb dX5_way_9 (by decide) (fun c2 => ?_) (fun c2 => ?_)
  · have hw := hw.1 c2
    refine lv_iconst (v := 0) hx hb dX5_way_30 (by decide) ?_
    exact hRet (0 : Int32) _ _ hw (vp_nar_int _) dX5_way_31
  · have hw := hw.2 c2
    refine lv_iload_n hx hb dX5_way_12 rfl (lv_at hl 0 rfl) ?_
    refine lv_aload_n hx hb dX5_way_13 rfl (lv_at hl 1 rfl) ?_
    refine va_get (D := G) (ci := 5) (v := .ref q_t_ways) (C := RX5) (T := TX5) (N := 5) hx hb hts hkX5_way_X5 hown hK hP 0 rfl rfl 0 (by decide) (hts (.fieldLink RX5 11 "NestReaders$Reader" "ways" "[I") hfX5_way_11) (fun _ h9 => h9) rfl dX5_way_14 ?_
    refine va_alen (D := G) (v := (18 : Int32)) hx hb hK hP 1 0 rfl rfl rfl dX5_way_17 ?_
    refine lv_icmp_ge (tgt := 30) hx hb dX5_way_18 (by decide) (fun c3 => ?_) (fun c3 => ?_)
    · have hw := hw.1 c3
      refine lv_iconst (v := 0) hx hb dX5_way_30 (by decide) ?_
      exact hRet (0 : Int32) _ _ hw (vp_nar_int _) dX5_way_31
    · have hw := hw.2 c3
      refine lv_aload_n hx hb dX5_way_21 rfl (lv_at hl 1 rfl) ?_
      refine va_get (D := G) (ci := 5) (v := .ref q_t_ways) (C := RX5) (T := TX5) (N := 5) hx hb hts hkX5_way_X5 hown hK hP 0 rfl rfl 0 (by decide) (hts (.fieldLink RX5 11 "NestReaders$Reader" "ways" "[I") hfX5_way_11) (fun _ h9 => h9) rfl dX5_way_22 ?_
      refine lv_iload_n hx hb dX5_way_25 rfl (lv_at hl 0 rfl) ?_
      refine va_iald (D := G) hx hb hK hP 1 0 rfl rfl hw.1 dX5_way_26 ?_
      have hw := hw.2
      refine lv_goto (tgt := 31) hx hb dX5_way_27 (by decide) ?_
      exact hRet (A_ways x1.toNatClampNeg) _ _ hw (vp_nar_int _) dX5_way_31
def wX5_opens (p0 : Int32) (K : Int32 → Prop) : Prop :=
  ((p0 = (0 : Int32) → K (1 : Int32)) ∧ (¬ p0 = (0 : Int32) → ((p0 = (1 : Int32) → K (1 : Int32)) ∧ (¬ p0 = (1 : Int32) → K (0 : Int32)))))
abbrev rmX5_opens : Room := { frames := 0, cells := 0, slots := 0, locals := 0 }
theorem nd_X5_opens : yX5_opens.cls ≠ "java/lang/invoke/MethodHandle" ∧ yX5_opens.cls ≠ "java/lang/invoke/VarHandle" ∧ (parseMethodDescriptor yX5_opens.desc).map (fun d => d.parameters.length) = some 1 := by decide +kernel
set_option maxHeartbeats 4000000 in
set_option maxRecDepth 100000 in
theorem c_X5_opens (l : Launch) (G : va_G) (cI cJ cZ : ClassId) (p0 : Int32) {K : Int32 → Prop} (hw : wX5_opens p0 K) : Met l yX5_opens wsX5_opens rmX5_opens (ms_P G (ms_T cI cJ cZ) [] [.int p0]) (ms_Qi (fun r : Int32 => ms_z r ∧ K r)) 0 0 ms_N := by
  refine ms_si (cc := cX5_opens) (maxL := 1) (ty := .boolean) (by decide) rfl (Nat.le_of_ble_eq_true rfl) ?_
  intro p e s m args below meth c Q hx hb hml hown hts hK hP hD hRet ls hl
  have hl : lv_has ls 1 [(0, .int p0)] := hl
  have hown : s.vm.findClass RX5 = some m.cls := hown
  refine lv_iload_n hx hb dX5_opens_0 rfl (lv_at hl 0 rfl) ?_
  refine lv_if_eq (tgt := 9) hx hb dX5_opens_1 (by decide) (fun c1 => ?_) (fun c1 => ?_)
  · have hw := hw.1 c1
    refine lv_iconst (v := 1) hx hb dX5_opens_9 (by decide) ?_
    refine lv_goto (tgt := 14) hx hb dX5_opens_10 (by decide) ?_
    exact hRet (1 : Int32) _ _ ⟨ms_z1, hw⟩ ms_z1 dX5_opens_14
  · have hw := hw.2 c1
    refine lv_iload_n hx hb dX5_opens_4 rfl (lv_at hl 0 rfl) ?_
    refine lv_iconst (v := 1) hx hb dX5_opens_5 (by decide) ?_
    refine lv_icmp_ne (tgt := 13) hx hb dX5_opens_6 (by decide) (fun c2 => ?_) (fun c2 => ?_)
    · have hw := hw.2 c2
      refine lv_iconst (v := 0) hx hb dX5_opens_13 (by decide) ?_
      exact hRet (0 : Int32) _ _ ⟨ms_z0, hw⟩ ms_z0 dX5_opens_14
    · have hw := hw.1 c2
      refine lv_iconst (v := 1) hx hb dX5_opens_9 (by decide) ?_
      refine lv_goto (tgt := 14) hx hb dX5_opens_10 (by decide) ?_
      exact hRet (1 : Int32) _ _ ⟨ms_z1, hw⟩ ms_z1 dX5_opens_14
def wX5_isPlain (p0 : Int32) (K : Int32 → Prop) : Prop :=
  ((p0 = (2 : Int32) → K (1 : Int32)) ∧ (¬ p0 = (2 : Int32) → ((p0 = (3 : Int32) → K (1 : Int32)) ∧ (¬ p0 = (3 : Int32) → K (0 : Int32)))))
abbrev rmX5_isPlain : Room := { frames := 0, cells := 0, slots := 0, locals := 0 }
theorem nd_X5_isPlain : yX5_isPlain.cls ≠ "java/lang/invoke/MethodHandle" ∧ yX5_isPlain.cls ≠ "java/lang/invoke/VarHandle" ∧ (parseMethodDescriptor yX5_isPlain.desc).map (fun d => d.parameters.length) = some 1 := by decide +kernel
set_option maxHeartbeats 4000000 in
set_option maxRecDepth 100000 in
theorem c_X5_isPlain (l : Launch) (G : va_G) (cI cJ cZ : ClassId) (p0 : Int32) {K : Int32 → Prop} (hw : wX5_isPlain p0 K) : Met l yX5_isPlain wsX5_isPlain rmX5_isPlain (ms_P G (ms_T cI cJ cZ) [] [.int p0]) (ms_Qi (fun r : Int32 => ms_z r ∧ K r)) 0 0 ms_N := by
  refine ms_si (cc := cX5_isPlain) (maxL := 1) (ty := .boolean) (by decide) rfl (Nat.le_of_ble_eq_true rfl) ?_
  intro p e s m args below meth c Q hx hb hml hown hts hK hP hD hRet ls hl
  have hl : lv_has ls 1 [(0, .int p0)] := hl
  have hown : s.vm.findClass RX5 = some m.cls := hown
  refine lv_iload_n hx hb dX5_isPlain_0 rfl (lv_at hl 0 rfl) ?_
  refine lv_iconst (v := 2) hx hb dX5_isPlain_1 (by decide) ?_
  refine lv_icmp_eq (tgt := 10) hx hb dX5_isPlain_2 (by decide) (fun c1 => ?_) (fun c1 => ?_)
  · have hw := hw.1 c1
    refine lv_iconst (v := 1) hx hb dX5_isPlain_10 (by decide) ?_
    refine lv_goto (tgt := 15) hx hb dX5_isPlain_11 (by decide) ?_
    exact hRet (1 : Int32) _ _ ⟨ms_z1, hw⟩ ms_z1 dX5_isPlain_15
  · have hw := hw.2 c1
    refine lv_iload_n hx hb dX5_isPlain_5 rfl (lv_at hl 0 rfl) ?_
    refine lv_iconst (v := 3) hx hb dX5_isPlain_6 (by decide) ?_
    refine lv_icmp_ne (tgt := 14) hx hb dX5_isPlain_7 (by decide) (fun c2 => ?_) (fun c2 => ?_)
    · have hw := hw.2 c2
      refine lv_iconst (v := 0) hx hb dX5_isPlain_14 (by decide) ?_
      exact hRet (0 : Int32) _ _ ⟨ms_z0, hw⟩ ms_z0 dX5_isPlain_15
    · have hw := hw.1 c2
      refine lv_iconst (v := 1) hx hb dX5_isPlain_10 (by decide) ?_
      refine lv_goto (tgt := 15) hx hb dX5_isPlain_11 (by decide) ?_
      exact hRet (1 : Int32) _ _ ⟨ms_z1, hw⟩ ms_z1 dX5_isPlain_15
def wX5_closes (p0 : Int32) (K : Int32 → Prop) : Prop :=
  ((p0 = (4 : Int32) → K (1 : Int32)) ∧ (¬ p0 = (4 : Int32) → ((p0 = (5 : Int32) → K (1 : Int32)) ∧ (¬ p0 = (5 : Int32) → K (0 : Int32)))))
abbrev rmX5_closes : Room := { frames := 0, cells := 0, slots := 0, locals := 0 }
theorem nd_X5_closes : yX5_closes.cls ≠ "java/lang/invoke/MethodHandle" ∧ yX5_closes.cls ≠ "java/lang/invoke/VarHandle" ∧ (parseMethodDescriptor yX5_closes.desc).map (fun d => d.parameters.length) = some 1 := by decide +kernel
set_option maxHeartbeats 4000000 in
set_option maxRecDepth 100000 in
theorem c_X5_closes (l : Launch) (G : va_G) (cI cJ cZ : ClassId) (p0 : Int32) {K : Int32 → Prop} (hw : wX5_closes p0 K) : Met l yX5_closes wsX5_closes rmX5_closes (ms_P G (ms_T cI cJ cZ) [] [.int p0]) (ms_Qi (fun r : Int32 => ms_z r ∧ K r)) 0 0 ms_N := by
  refine ms_si (cc := cX5_closes) (maxL := 1) (ty := .boolean) (by decide) rfl (Nat.le_of_ble_eq_true rfl) ?_
  intro p e s m args below meth c Q hx hb hml hown hts hK hP hD hRet ls hl
  have hl : lv_has ls 1 [(0, .int p0)] := hl
  have hown : s.vm.findClass RX5 = some m.cls := hown
  refine lv_iload_n hx hb dX5_closes_0 rfl (lv_at hl 0 rfl) ?_
  refine lv_iconst (v := 4) hx hb dX5_closes_1 (by decide) ?_
  refine lv_icmp_eq (tgt := 10) hx hb dX5_closes_2 (by decide) (fun c1 => ?_) (fun c1 => ?_)
  · have hw := hw.1 c1
    refine lv_iconst (v := 1) hx hb dX5_closes_10 (by decide) ?_
    refine lv_goto (tgt := 15) hx hb dX5_closes_11 (by decide) ?_
    exact hRet (1 : Int32) _ _ ⟨ms_z1, hw⟩ ms_z1 dX5_closes_15
  · have hw := hw.2 c1
    refine lv_iload_n hx hb dX5_closes_5 rfl (lv_at hl 0 rfl) ?_
    refine lv_iconst (v := 5) hx hb dX5_closes_6 (by decide) ?_
    refine lv_icmp_ne (tgt := 14) hx hb dX5_closes_7 (by decide) (fun c2 => ?_) (fun c2 => ?_)
    · have hw := hw.2 c2
      refine lv_iconst (v := 0) hx hb dX5_closes_14 (by decide) ?_
      exact hRet (0 : Int32) _ _ ⟨ms_z0, hw⟩ ms_z0 dX5_closes_15
    · have hw := hw.1 c2
      refine lv_iconst (v := 1) hx hb dX5_closes_10 (by decide) ?_
      refine lv_goto (tgt := 15) hx hb dX5_closes_11 (by decide) ?_
      exact hRet (1 : Int32) _ _ ⟨ms_z1, hw⟩ ms_z1 dX5_closes_15
def wX5_pair (p0 : Int32) (p1 : Int32) (K : Int32 → Prop) : Prop :=
  K ((1 : Int32) <<< ((((3 : Int32) * p0) + p1) &&& 31))
abbrev rmX5_pair : Room := { frames := 0, cells := 0, slots := 0, locals := 0 }
theorem nd_X5_pair : yX5_pair.cls ≠ "java/lang/invoke/MethodHandle" ∧ yX5_pair.cls ≠ "java/lang/invoke/VarHandle" ∧ (parseMethodDescriptor yX5_pair.desc).map (fun d => d.parameters.length) = some 2 := by decide +kernel
set_option maxHeartbeats 4000000 in
set_option maxRecDepth 100000 in
theorem c_X5_pair (l : Launch) (G : va_G) (cI cJ cZ : ClassId) (p0 : Int32) (p1 : Int32) {K : Int32 → Prop} (hw : wX5_pair p0 p1 K) : Met l yX5_pair wsX5_pair rmX5_pair (ms_P G (ms_T cI cJ cZ) [] [.int p0, .int p1]) (ms_Qi K) 0 0 ms_N := by
  refine ms_si (cc := cX5_pair) (maxL := 2) (ty := .int) (by decide) rfl (Nat.le_of_ble_eq_true rfl) ?_
  intro p e s m args below meth c Q hx hb hml hown hts hK hP hD hRet ls hl
  have hl : lv_has ls 2 [(0, .int p0), (1, .int p1)] := hl
  have hown : s.vm.findClass RX5 = some m.cls := hown
  refine lv_iconst (v := 1) hx hb dX5_pair_0 (by decide) ?_
  refine lv_iconst (v := 3) hx hb dX5_pair_1 (by decide) ?_
  refine lv_iload_n hx hb dX5_pair_2 rfl (lv_at hl 0 rfl) ?_
  refine lv_imul hx hb dX5_pair_3 ?_
  refine lv_iload_n hx hb dX5_pair_4 rfl (lv_at hl 1 rfl) ?_
  refine lv_iadd hx hb dX5_pair_5 ?_
  refine lv_ishl hx hb dX5_pair_6 ?_
  exact hRet ((1 : Int32) <<< ((((3 : Int32) * p0) + p1) &&& 31)) _ _ hw (vp_nar_int _) dX5_pair_7
def wX5_image (p0 : Int32) (p1 : Int32) (K : Int32 → Prop) : Prop :=
  (((p0 &&& (1 : Int32)) = (0 : Int32) → (((p0 &&& (2 : Int32)) = (0 : Int32) → (((p0 &&& (4 : Int32)) = (0 : Int32) → K (0 : Int32)) ∧ (¬ (p0 &&& (4 : Int32)) = (0 : Int32) → (∀ x4 : Int32, x4 = ((0 : Int32) ||| ((p1 >>> ((6 : Int32) &&& 31)) &&& (7 : Int32))) → K x4)))) ∧ (¬ (p0 &&& (2 : Int32)) = (0 : Int32) → (∀ x5 : Int32, x5 = ((0 : Int32) ||| ((p1 >>> ((3 : Int32) &&& 31)) &&& (7 : Int32))) → (((p0 &&& (4 : Int32)) = (0 : Int32) → K x5) ∧ (¬ (p0 &&& (4 : Int32)) = (0 : Int32) → (∀ x7 : Int32, x7 = (x5 ||| ((p1 >>> ((6 : Int32) &&& 31)) &&& (7 : Int32))) → K x7))))))) ∧ (¬ (p0 &&& (1 : Int32)) = (0 : Int32) → (∀ x8 : Int32, x8 = ((0 : Int32) ||| (p1 &&& (7 : Int32))) → (((p0 &&& (2 : Int32)) = (0 : Int32) → (((p0 &&& (4 : Int32)) = (0 : Int32) → K x8) ∧ (¬ (p0 &&& (4 : Int32)) = (0 : Int32) → (∀ x11 : Int32, x11 = (x8 ||| ((p1 >>> ((6 : Int32) &&& 31)) &&& (7 : Int32))) → K x11)))) ∧ (¬ (p0 &&& (2 : Int32)) = (0 : Int32) → (∀ x12 : Int32, x12 = (x8 ||| ((p1 >>> ((3 : Int32) &&& 31)) &&& (7 : Int32))) → (((p0 &&& (4 : Int32)) = (0 : Int32) → K x12) ∧ (¬ (p0 &&& (4 : Int32)) = (0 : Int32) → (∀ x14 : Int32, x14 = (x12 ||| ((p1 >>> ((6 : Int32) &&& 31)) &&& (7 : Int32))) → K x14)))))))))
abbrev rmX5_image : Room := { frames := 0, cells := 0, slots := 0, locals := 0 }
theorem nd_X5_image : yX5_image.cls ≠ "java/lang/invoke/MethodHandle" ∧ yX5_image.cls ≠ "java/lang/invoke/VarHandle" ∧ (parseMethodDescriptor yX5_image.desc).map (fun d => d.parameters.length) = some 2 := by decide +kernel
set_option maxHeartbeats 4000000 in
set_option maxRecDepth 100000 in
theorem c_X5_image (l : Launch) (G : va_G) (cI cJ cZ : ClassId) (p0 : Int32) (p1 : Int32) {K : Int32 → Prop} (hw : wX5_image p0 p1 K) : Met l yX5_image wsX5_image rmX5_image (ms_P G (ms_T cI cJ cZ) [] [.int p0, .int p1]) (ms_Qi K) 0 0 ms_N := by
  refine ms_si (cc := cX5_image) (maxL := 3) (ty := .int) (by decide) rfl (Nat.le_of_ble_eq_true rfl) ?_
  intro p e s m args below meth c Q hx hb hml hown hts hK hP hD hRet ls hl
  have hl : lv_has ls 3 [(0, .int p0), (1, .int p1)] := hl
  have hown : s.vm.findClass RX5 = some m.cls := hown
  refine lv_iconst (v := 0) hx hb dX5_image_0 (by decide) ?_
  refine lv_istore_n (lv' := [(2, .int (0 : Int32)), (0, .int p0), (1, .int p1)]) hx hb dX5_image_1 rfl hl (by decide) rfl (fun ls hl => ?_)
  refine lv_iload_n hx hb dX5_image_2 rfl (lv_at hl 1 rfl) ?_
  refine lv_iconst (v := 1) hx hb dX5_image_3 (by decide) ?_
  refine lv_iand hx hb dX5_image_4 ?_
  refine lv_if_eq (tgt := 15) hx hb dX5_image_5 (by decide) (fun c1 => ?_) (fun c1 => ?_)
  · have hw := hw.1 c1
    refine lv_iload_n hx hb dX5_image_15 rfl (lv_at hl 1 rfl) ?_
    refine lv_iconst (v := 2) hx hb dX5_image_16 (by decide) ?_
    refine lv_iand hx hb dX5_image_17 ?_
    refine lv_if_eq (tgt := 30) hx hb dX5_image_18 (by decide) (fun c2 => ?_) (fun c2 => ?_)
    · have hw := hw.1 c2
      refine lv_iload_n hx hb dX5_image_30 rfl (lv_at hl 1 rfl) ?_
      refine lv_iconst (v := 4) hx hb dX5_image_31 (by decide) ?_
      refine lv_iand hx hb dX5_image_32 ?_
      refine lv_if_eq (tgt := 46) hx hb dX5_image_33 (by decide) (fun c3 => ?_) (fun c3 => ?_)
      · have hw := hw.1 c3
        refine lv_iload_n hx hb dX5_image_46 rfl (lv_at hl 0 rfl) ?_
        exact hRet (0 : Int32) _ _ hw (vp_nar_int _) dX5_image_47
      · have hw := hw.2 c3
        refine lv_iload_n hx hb dX5_image_36 rfl (lv_at hl 0 rfl) ?_
        refine lv_iload_n hx hb dX5_image_37 rfl (lv_at hl 2 rfl) ?_
        refine lv_bipush (v := (6)) hx hb dX5_image_38 (by decide) ?_
        refine lv_ishr hx hb dX5_image_40 ?_
        refine lv_bipush (v := (7)) hx hb dX5_image_41 (by decide) ?_
        refine lv_iand hx hb dX5_image_43 ?_
        refine lv_ior hx hb dX5_image_44 ?_
        refine lv_topi (fun x4 ex4 => ?_)
        have hw := hw x4 ex4
        refine lv_istore_n (lv' := [(2, .int x4), (0, .int p0), (1, .int p1)]) hx hb dX5_image_45 rfl hl (by decide) rfl (fun ls hl => ?_)
        refine lv_iload_n hx hb dX5_image_46 rfl (lv_at hl 0 rfl) ?_
        exact hRet x4 _ _ hw (vp_nar_int _) dX5_image_47
    · have hw := hw.2 c2
      refine lv_iload_n hx hb dX5_image_21 rfl (lv_at hl 0 rfl) ?_
      refine lv_iload_n hx hb dX5_image_22 rfl (lv_at hl 2 rfl) ?_
      refine lv_iconst (v := 3) hx hb dX5_image_23 (by decide) ?_
      refine lv_ishr hx hb dX5_image_24 ?_
      refine lv_bipush (v := (7)) hx hb dX5_image_25 (by decide) ?_
      refine lv_iand hx hb dX5_image_27 ?_
      refine lv_ior hx hb dX5_image_28 ?_
      refine lv_topi (fun x5 ex5 => ?_)
      have hw := hw x5 ex5
      refine lv_istore_n (lv' := [(2, .int x5), (0, .int p0), (1, .int p1)]) hx hb dX5_image_29 rfl hl (by decide) rfl (fun ls hl => ?_)
      refine lv_iload_n hx hb dX5_image_30 rfl (lv_at hl 1 rfl) ?_
      refine lv_iconst (v := 4) hx hb dX5_image_31 (by decide) ?_
      refine lv_iand hx hb dX5_image_32 ?_
      refine lv_if_eq (tgt := 46) hx hb dX5_image_33 (by decide) (fun c6 => ?_) (fun c6 => ?_)
      · have hw := hw.1 c6
        refine lv_iload_n hx hb dX5_image_46 rfl (lv_at hl 0 rfl) ?_
        exact hRet x5 _ _ hw (vp_nar_int _) dX5_image_47
      · have hw := hw.2 c6
        refine lv_iload_n hx hb dX5_image_36 rfl (lv_at hl 0 rfl) ?_
        refine lv_iload_n hx hb dX5_image_37 rfl (lv_at hl 2 rfl) ?_
        refine lv_bipush (v := (6)) hx hb dX5_image_38 (by decide) ?_
        refine lv_ishr hx hb dX5_image_40 ?_
        refine lv_bipush (v := (7)) hx hb dX5_image_41 (by decide) ?_
        refine lv_iand hx hb dX5_image_43 ?_
        refine lv_ior hx hb dX5_image_44 ?_
        refine lv_topi (fun x7 ex7 => ?_)
        have hw := hw x7 ex7
        refine lv_istore_n (lv' := [(2, .int x7), (0, .int p0), (1, .int p1)]) hx hb dX5_image_45 rfl hl (by decide) rfl (fun ls hl => ?_)
        refine lv_iload_n hx hb dX5_image_46 rfl (lv_at hl 0 rfl) ?_
        exact hRet x7 _ _ hw (vp_nar_int _) dX5_image_47
  · have hw := hw.2 c1
    refine lv_iload_n hx hb dX5_image_8 rfl (lv_at hl 0 rfl) ?_
    refine lv_iload_n hx hb dX5_image_9 rfl (lv_at hl 2 rfl) ?_
    refine lv_bipush (v := (7)) hx hb dX5_image_10 (by decide) ?_
    refine lv_iand hx hb dX5_image_12 ?_
    refine lv_ior hx hb dX5_image_13 ?_
    refine lv_topi (fun x8 ex8 => ?_)
    have hw := hw x8 ex8
    refine lv_istore_n (lv' := [(2, .int x8), (0, .int p0), (1, .int p1)]) hx hb dX5_image_14 rfl hl (by decide) rfl (fun ls hl => ?_)
    refine lv_iload_n hx hb dX5_image_15 rfl (lv_at hl 1 rfl) ?_
    refine lv_iconst (v := 2) hx hb dX5_image_16 (by decide) ?_
    refine lv_iand hx hb dX5_image_17 ?_
    refine lv_if_eq (tgt := 30) hx hb dX5_image_18 (by decide) (fun c9 => ?_) (fun c9 => ?_)
    · have hw := hw.1 c9
      refine lv_iload_n hx hb dX5_image_30 rfl (lv_at hl 1 rfl) ?_
      refine lv_iconst (v := 4) hx hb dX5_image_31 (by decide) ?_
      refine lv_iand hx hb dX5_image_32 ?_
      refine lv_if_eq (tgt := 46) hx hb dX5_image_33 (by decide) (fun c10 => ?_) (fun c10 => ?_)
      · have hw := hw.1 c10
        refine lv_iload_n hx hb dX5_image_46 rfl (lv_at hl 0 rfl) ?_
        exact hRet x8 _ _ hw (vp_nar_int _) dX5_image_47
      · have hw := hw.2 c10
        refine lv_iload_n hx hb dX5_image_36 rfl (lv_at hl 0 rfl) ?_
        refine lv_iload_n hx hb dX5_image_37 rfl (lv_at hl 2 rfl) ?_
        refine lv_bipush (v := (6)) hx hb dX5_image_38 (by decide) ?_
        refine lv_ishr hx hb dX5_image_40 ?_
        refine lv_bipush (v := (7)) hx hb dX5_image_41 (by decide) ?_
        refine lv_iand hx hb dX5_image_43 ?_
        refine lv_ior hx hb dX5_image_44 ?_
        refine lv_topi (fun x11 ex11 => ?_)
        have hw := hw x11 ex11
        refine lv_istore_n (lv' := [(2, .int x11), (0, .int p0), (1, .int p1)]) hx hb dX5_image_45 rfl hl (by decide) rfl (fun ls hl => ?_)
        refine lv_iload_n hx hb dX5_image_46 rfl (lv_at hl 0 rfl) ?_
        exact hRet x11 _ _ hw (vp_nar_int _) dX5_image_47
    · have hw := hw.2 c9
      refine lv_iload_n hx hb dX5_image_21 rfl (lv_at hl 0 rfl) ?_
      refine lv_iload_n hx hb dX5_image_22 rfl (lv_at hl 2 rfl) ?_
      refine lv_iconst (v := 3) hx hb dX5_image_23 (by decide) ?_
      refine lv_ishr hx hb dX5_image_24 ?_
      refine lv_bipush (v := (7)) hx hb dX5_image_25 (by decide) ?_
      refine lv_iand hx hb dX5_image_27 ?_
      refine lv_ior hx hb dX5_image_28 ?_
      refine lv_topi (fun x12 ex12 => ?_)
      have hw := hw x12 ex12
      refine lv_istore_n (lv' := [(2, .int x12), (0, .int p0), (1, .int p1)]) hx hb dX5_image_29 rfl hl (by decide) rfl (fun ls hl => ?_)
      refine lv_iload_n hx hb dX5_image_30 rfl (lv_at hl 1 rfl) ?_
      refine lv_iconst (v := 4) hx hb dX5_image_31 (by decide) ?_
      refine lv_iand hx hb dX5_image_32 ?_
      refine lv_if_eq (tgt := 46) hx hb dX5_image_33 (by decide) (fun c13 => ?_) (fun c13 => ?_)
      · have hw := hw.1 c13
        refine lv_iload_n hx hb dX5_image_46 rfl (lv_at hl 0 rfl) ?_
        exact hRet x12 _ _ hw (vp_nar_int _) dX5_image_47
      · have hw := hw.2 c13
        refine lv_iload_n hx hb dX5_image_36 rfl (lv_at hl 0 rfl) ?_
        refine lv_iload_n hx hb dX5_image_37 rfl (lv_at hl 2 rfl) ?_
        refine lv_bipush (v := (6)) hx hb dX5_image_38 (by decide) ?_
        refine lv_ishr hx hb dX5_image_40 ?_
        refine lv_bipush (v := (7)) hx hb dX5_image_41 (by decide) ?_
        refine lv_iand hx hb dX5_image_43 ?_
        refine lv_ior hx hb dX5_image_44 ?_
        refine lv_topi (fun x14 ex14 => ?_)
        have hw := hw x14 ex14
        refine lv_istore_n (lv' := [(2, .int x14), (0, .int p0), (1, .int p1)]) hx hb dX5_image_45 rfl hl (by decide) rfl (fun ls hl => ?_)
        refine lv_iload_n hx hb dX5_image_46 rfl (lv_at hl 0 rfl) ?_
        exact hRet x14 _ _ hw (vp_nar_int _) dX5_image_47
def wX5_then (p0 : Int32) (p1 : Int32) (K : Int32 → Prop) : Prop :=
  ((p0 = (0 : Int32) → K (0 : Int32)) ∧ (¬ p0 = (0 : Int32) → ((p1 = (0 : Int32) → K (0 : Int32)) ∧ (¬ p1 = (0 : Int32) → (wX5_image (p0 &&& (7 : Int32)) p1 (fun r3 => (wX5_image ((p0 >>> ((3 : Int32) &&& 31)) &&& (7 : Int32)) p1 (fun r4 => (wX5_image ((p0 >>> ((6 : Int32) &&& 31)) &&& (7 : Int32)) p1 (fun r5 => K ((r3 ||| (r4 <<< ((3 : Int32) &&& 31))) ||| (r5 <<< ((6 : Int32) &&& 31)))))))))))))
abbrev rmX5_then : Room := { frames := 1, cells := 0, slots := 0, locals := 22 }
theorem nd_X5_then : yX5_then.cls ≠ "java/lang/invoke/MethodHandle" ∧ yX5_then.cls ≠ "java/lang/invoke/VarHandle" ∧ (parseMethodDescriptor yX5_then.desc).map (fun d => d.parameters.length) = some 2 := by decide +kernel
set_option maxHeartbeats 4000000 in
set_option maxRecDepth 100000 in
theorem c_X5_then (l : Launch) (G : va_G) (cI cJ cZ : ClassId) (p0 : Int32) (p1 : Int32) {K : Int32 → Prop} (hw : wX5_then p0 p1 K) : Met l yX5_then wsX5_then rmX5_then (ms_P G (ms_T cI cJ cZ) [] [.int p0, .int p1]) (ms_Qi K) 0 0 ms_N := by
  refine ms_si (cc := cX5_then) (maxL := 2) (ty := .int) (by decide) rfl (Nat.le_of_ble_eq_true rfl) ?_
  intro p e s m args below meth c Q hx hb hml hown hts hK hP hD hRet ls hl
  have hl : lv_has ls 2 [(0, .int p0), (1, .int p1)] := hl
  have hown : s.vm.findClass RX5 = some m.cls := hown
  refine lv_iload_n hx hb dX5_then_0 rfl (lv_at hl 0 rfl) ?_
  refine lv_if_eq (tgt := 8) hx hb dX5_then_1 (by decide) (fun c1 => ?_) (fun c1 => ?_)
  · have hw := hw.1 c1
    refine lv_iconst (v := 0) hx hb dX5_then_8 (by decide) ?_
    exact hRet (0 : Int32) _ _ hw (vp_nar_int _) dX5_then_9
  · have hw := hw.2 c1
    refine lv_iload_n hx hb dX5_then_4 rfl (lv_at hl 1 rfl) ?_
    refine lv_if_ne (tgt := 10) hx hb dX5_then_5 (by decide) (fun c2 => ?_) (fun c2 => ?_)
    · have hw := hw.2 c2
      refine lv_iload_n hx hb dX5_then_10 rfl (lv_at hl 0 rfl) ?_
      refine lv_bipush (v := (7)) hx hb dX5_then_11 (by decide) ?_
      refine lv_iand hx hb dX5_then_13 ?_
      refine lv_iload_n hx hb dX5_then_14 rfl (lv_at hl 1 rfl) ?_
      refine ms_cSi ⟨hx, hb, hml, hown, hts⟩ hK hP hD (c_X5_image l G cI cJ cZ (p0 &&& (7 : Int32)) p1 hw) gX5_then_X5_image rfl nd_X5_image ⟨rfl, rfl⟩ rfl ⟨Nat.le_of_ble_eq_true rfl, Nat.le_of_ble_eq_true rfl⟩ hl.1 (rest := []) rfl (Nat.le_of_ble_eq_true rfl)  [] rfl rfl dX5_then_15 (fun r3 hw => ?_)
      refine lv_iload_n hx hb dX5_then_18 rfl (lv_at hl 0 rfl) ?_
      refine lv_iconst (v := 3) hx hb dX5_then_19 (by decide) ?_
      refine lv_ishr hx hb dX5_then_20 ?_
      refine lv_bipush (v := (7)) hx hb dX5_then_21 (by decide) ?_
      refine lv_iand hx hb dX5_then_23 ?_
      refine lv_iload_n hx hb dX5_then_24 rfl (lv_at hl 1 rfl) ?_
      refine ms_cSi ⟨hx, hb, hml, hown, hts⟩ hK hP hD (c_X5_image l G cI cJ cZ ((p0 >>> ((3 : Int32) &&& 31)) &&& (7 : Int32)) p1 hw) gX5_then_X5_image rfl nd_X5_image ⟨rfl, rfl⟩ rfl ⟨Nat.le_of_ble_eq_true rfl, Nat.le_of_ble_eq_true rfl⟩ hl.1 (rest := [.int r3]) rfl (Nat.le_of_ble_eq_true rfl)  [] rfl rfl dX5_then_25 (fun r4 hw => ?_)
      refine lv_iconst (v := 3) hx hb dX5_then_28 (by decide) ?_
      refine lv_ishl hx hb dX5_then_29 ?_
      refine lv_ior hx hb dX5_then_30 ?_
      refine lv_iload_n hx hb dX5_then_31 rfl (lv_at hl 0 rfl) ?_
      refine lv_bipush (v := (6)) hx hb dX5_then_32 (by decide) ?_
      refine lv_ishr hx hb dX5_then_34 ?_
      refine lv_bipush (v := (7)) hx hb dX5_then_35 (by decide) ?_
      refine lv_iand hx hb dX5_then_37 ?_
      refine lv_iload_n hx hb dX5_then_38 rfl (lv_at hl 1 rfl) ?_
      refine ms_cSi ⟨hx, hb, hml, hown, hts⟩ hK hP hD (c_X5_image l G cI cJ cZ ((p0 >>> ((6 : Int32) &&& 31)) &&& (7 : Int32)) p1 hw) gX5_then_X5_image rfl nd_X5_image ⟨rfl, rfl⟩ rfl ⟨Nat.le_of_ble_eq_true rfl, Nat.le_of_ble_eq_true rfl⟩ hl.1 (rest := [.int (r3 ||| (r4 <<< ((3 : Int32) &&& 31)))]) rfl (Nat.le_of_ble_eq_true rfl)  [] rfl rfl dX5_then_39 (fun r5 hw => ?_)
      refine lv_bipush (v := (6)) hx hb dX5_then_42 (by decide) ?_
      refine lv_ishl hx hb dX5_then_44 ?_
      refine lv_ior hx hb dX5_then_45 ?_
      exact hRet ((r3 ||| (r4 <<< ((3 : Int32) &&& 31))) ||| (r5 <<< ((6 : Int32) &&& 31))) _ _ hw (vp_nar_int _) dX5_then_46
    · have hw := hw.1 c2
      refine lv_iconst (v := 0) hx hb dX5_then_8 (by decide) ?_
      exact hRet (0 : Int32) _ _ hw (vp_nar_int _) dX5_then_9
def wX5_slot (p0 : Int32) (p1 : Int32) (K : Int32 → Prop) : Prop :=
  K (((p0 * (3 : Int32)) + p1) + (1 : Int32))
abbrev rmX5_slot : Room := { frames := 0, cells := 0, slots := 0, locals := 0 }
theorem nd_X5_slot : yX5_slot.cls ≠ "java/lang/invoke/MethodHandle" ∧ yX5_slot.cls ≠ "java/lang/invoke/VarHandle" ∧ (parseMethodDescriptor yX5_slot.desc).map (fun d => d.parameters.length) = some 2 := by decide +kernel
set_option maxHeartbeats 4000000 in
set_option maxRecDepth 100000 in
theorem c_X5_slot (l : Launch) (G : va_G) (cI cJ cZ : ClassId) (p0 : Int32) (p1 : Int32) {K : Int32 → Prop} (hw : wX5_slot p0 p1 K) : Met l yX5_slot wsX5_slot rmX5_slot (ms_P G (ms_T cI cJ cZ) [] [.int p0, .int p1]) (ms_Qi K) 0 0 ms_N := by
  refine ms_si (cc := cX5_slot) (maxL := 2) (ty := .int) (by decide) rfl (Nat.le_of_ble_eq_true rfl) ?_
  intro p e s m args below meth c Q hx hb hml hown hts hK hP hD hRet ls hl
  have hl : lv_has ls 2 [(0, .int p0), (1, .int p1)] := hl
  have hown : s.vm.findClass RX5 = some m.cls := hown
  refine lv_iload_n hx hb dX5_slot_0 rfl (lv_at hl 0 rfl) ?_
  refine lv_iconst (v := 3) hx hb dX5_slot_1 (by decide) ?_
  refine lv_imul hx hb dX5_slot_2 ?_
  refine lv_iload_n hx hb dX5_slot_3 rfl (lv_at hl 1 rfl) ?_
  refine lv_iadd hx hb dX5_slot_4 ?_
  refine lv_iconst (v := 1) hx hb dX5_slot_5 (by decide) ?_
  refine lv_iadd hx hb dX5_slot_6 ?_
  exact hRet (((p0 * (3 : Int32)) + p1) + (1 : Int32)) _ _ hw (vp_nar_int _) dX5_slot_7
def wX5_knows (p0 : Int32) (p1 : Int32) (p2 : Int32) (p3 : Int32) (F_states : Int32) (F_marks : Int32) (K : Int32 → Prop) : Prop :=
  (wX5_isState p0 F_states (fun r1 => ((r1 = (0 : Int32) → K (0 : Int32)) ∧ (¬ r1 = (0 : Int32) → (wX5_isState p3 F_states (fun r3 => ((r3 = (0 : Int32) → K (0 : Int32)) ∧ (¬ r3 = (0 : Int32) → ((p1 < (0 : Int32) → K (0 : Int32)) ∧ (¬ p1 < (0 : Int32) → ((p1 < (6 : Int32) → (wX5_isPlain p1 (fun r7 => ((r7 = (0 : Int32) → (wX5_isMark p2 F_marks (fun r9 => ((r9 = (0 : Int32) → (wX5_closes p1 (fun r11 => ((r11 = (0 : Int32) → K (0 : Int32)) ∧ (¬ r11 = (0 : Int32) → ((p2 = (-1 : Int32) → K (1 : Int32)) ∧ (¬ p2 = (-1 : Int32) → K (0 : Int32)))))))) ∧ (¬ r9 = (0 : Int32) → K (1 : Int32)))))) ∧ (¬ r7 = (0 : Int32) → ((p2 = (0 : Int32) → K (1 : Int32)) ∧ (¬ p2 = (0 : Int32) → K (0 : Int32)))))))) ∧ (¬ p1 < (6 : Int32) → K (0 : Int32)))))))))))))
abbrev rmX5_knows : Room := { frames := 1, cells := 0, slots := 0, locals := 21 }
theorem nd_X5_knows : yX5_knows.cls = RX5 ∧ yX5_knows.cls ≠ "java/lang/invoke/MethodHandle" ∧ yX5_knows.cls ≠ "java/lang/invoke/VarHandle" ∧ (parseMethodDescriptor yX5_knows.desc).map (fun d => d.parameters.length) = some 4 := by decide +kernel
set_option maxHeartbeats 4000000 in
set_option maxRecDepth 100000 in
theorem c_X5_knows (l : Launch) (G : va_G) (cI cJ cZ : ClassId) (q_t q_t_ways : Nat) (F_states : Int32) (F_marks : Int32) (F_takes : Int32) (F_changes : Int32) (p0 : Int32) (p1 : Int32) (p2 : Int32) (p3 : Int32) {K : Int32 → Prop} (hw : wX5_knows p0 p1 p2 p3 F_states F_marks K) : Met l yX5_knows wsX5_knows rmX5_knows (ms_P G (ms_T cI cJ cZ) [(q_t, .inr (5, [.ref q_t_ways, .int F_states, .int F_marks, .int F_takes, .int F_changes]))] [.ref q_t, .int p0, .int p1, .int p2, .int p3]) (ms_Qi (fun r : Int32 => ms_z r ∧ K r)) 0 0 ms_N := by
  refine ms_si (cc := cX5_knows) (maxL := 5) (ty := .boolean) (by decide) rfl (Nat.le_of_ble_eq_true rfl) ?_
  intro p e s m args below meth c Q hx hb hml hown hts hK hP hD hRet ls hl
  have hl : lv_has ls 5 [(0, .ref q_t), (1, .int p0), (2, .int p1), (3, .int p2), (4, .int p3)] := hl
  have hown : s.vm.findClass RX5 = some m.cls := hown
  refine lv_aload_n hx hb dX5_knows_0 rfl (lv_at hl 0 rfl) ?_
  refine lv_iload_n hx hb dX5_knows_1 rfl (lv_at hl 1 rfl) ?_
  refine ms_cVi ⟨hx, hb, hml, hown, hts⟩ hK hP hD (c_X5_isState l G cI cJ cZ q_t q_t_ways F_states F_marks F_takes F_changes p0 hw) gX5_knows_X5_isState rfl nd_X5_isState (ci := 5) rfl rfl rfl ⟨rfl, rfl⟩ rfl ⟨Nat.le_of_ble_eq_true rfl, Nat.le_of_ble_eq_true rfl⟩ hl.1 (rest := []) rfl (Nat.le_of_ble_eq_true rfl)  [0] rfl rfl dX5_knows_2 (fun r1 hw => ?_)
  have zzr1 := hw.1
  have hw := hw.2
  refine lv_if_eq (tgt := 27) hx hb dX5_knows_5 (by decide) (fun c2 => ?_) (fun c2 => ?_)
  · have hw := hw.1 c2
    refine lv_iconst (v := 0) hx hb dX5_knows_27 (by decide) ?_
    exact hRet (0 : Int32) _ _ ⟨ms_z0, hw⟩ ms_z0 dX5_knows_28
  · have hw := hw.2 c2
    refine lv_aload_n hx hb dX5_knows_8 rfl (lv_at hl 0 rfl) ?_
    refine lv_iload hx hb dX5_knows_9 (lv_at hl 4 rfl) ?_
    refine ms_cVi ⟨hx, hb, hml, hown, hts⟩ hK hP hD (c_X5_isState l G cI cJ cZ q_t q_t_ways F_states F_marks F_takes F_changes p3 hw) gX5_knows_X5_isState rfl nd_X5_isState (ci := 5) rfl rfl rfl ⟨rfl, rfl⟩ rfl ⟨Nat.le_of_ble_eq_true rfl, Nat.le_of_ble_eq_true rfl⟩ hl.1 (rest := []) rfl (Nat.le_of_ble_eq_true rfl)  [0] rfl rfl dX5_knows_11 (fun r3 hw => ?_)
    have zzr3 := hw.1
    have hw := hw.2
    refine lv_if_eq (tgt := 27) hx hb dX5_knows_14 (by decide) (fun c4 => ?_) (fun c4 => ?_)
    · have hw := hw.1 c4
      refine lv_iconst (v := 0) hx hb dX5_knows_27 (by decide) ?_
      exact hRet (0 : Int32) _ _ ⟨ms_z0, hw⟩ ms_z0 dX5_knows_28
    · have hw := hw.2 c4
      refine lv_iload_n hx hb dX5_knows_17 rfl (lv_at hl 2 rfl) ?_
      refine lv_if_lt (tgt := 27) hx hb dX5_knows_18 (by decide) (fun c5 => ?_) (fun c5 => ?_)
      · have hw := hw.1 c5
        refine lv_iconst (v := 0) hx hb dX5_knows_27 (by decide) ?_
        exact hRet (0 : Int32) _ _ ⟨ms_z0, hw⟩ ms_z0 dX5_knows_28
      · have hw := hw.2 c5
        refine lv_iload_n hx hb dX5_knows_21 rfl (lv_at hl 2 rfl) ?_
        refine lv_bipush (v := (6)) hx hb dX5_knows_22 (by decide) ?_
        refine lv_icmp_lt (tgt := 29) hx hb dX5_knows_24 (by decide) (fun c6 => ?_) (fun c6 => ?_)
        · have hw := hw.1 c6
          refine lv_iload_n hx hb dX5_knows_29 rfl (lv_at hl 2 rfl) ?_
          refine ms_cSi ⟨hx, hb, hml, hown, hts⟩ hK hP hD (c_X5_isPlain l G cI cJ cZ p1 hw) gX5_knows_X5_isPlain rfl nd_X5_isPlain ⟨rfl, rfl⟩ rfl ⟨Nat.le_of_ble_eq_true rfl, Nat.le_of_ble_eq_true rfl⟩ hl.1 (rest := []) rfl (Nat.le_of_ble_eq_true rfl)  [] rfl rfl dX5_knows_30 (fun r7 hw => ?_)
          have zzr7 := hw.1
          have hw := hw.2
          refine lv_if_eq (tgt := 46) hx hb dX5_knows_33 (by decide) (fun c8 => ?_) (fun c8 => ?_)
          · have hw := hw.1 c8
            refine lv_aload_n hx hb dX5_knows_46 rfl (lv_at hl 0 rfl) ?_
            refine lv_iload_n hx hb dX5_knows_47 rfl (lv_at hl 3 rfl) ?_
            refine ms_cVi ⟨hx, hb, hml, hown, hts⟩ hK hP hD (c_X5_isMark l G cI cJ cZ q_t q_t_ways F_states F_marks F_takes F_changes p2 hw) gX5_knows_X5_isMark rfl nd_X5_isMark (ci := 5) rfl rfl rfl ⟨rfl, rfl⟩ rfl ⟨Nat.le_of_ble_eq_true rfl, Nat.le_of_ble_eq_true rfl⟩ hl.1 (rest := []) rfl (Nat.le_of_ble_eq_true rfl)  [0] rfl rfl dX5_knows_48 (fun r9 hw => ?_)
            have zzr9 := hw.1
            have hw := hw.2
            refine lv_if_ne (tgt := 66) hx hb dX5_knows_51 (by decide) (fun c10 => ?_) (fun c10 => ?_)
            · have hw := hw.2 c10
              refine lv_iconst (v := 1) hx hb dX5_knows_66 (by decide) ?_
              refine lv_goto (tgt := 71) hx hb dX5_knows_67 (by decide) ?_
              exact hRet (1 : Int32) _ _ ⟨ms_z1, hw⟩ ms_z1 dX5_knows_71
            · have hw := hw.1 c10
              refine lv_iload_n hx hb dX5_knows_54 rfl (lv_at hl 2 rfl) ?_
              refine ms_cSi ⟨hx, hb, hml, hown, hts⟩ hK hP hD (c_X5_closes l G cI cJ cZ p1 hw) gX5_knows_X5_closes rfl nd_X5_closes ⟨rfl, rfl⟩ rfl ⟨Nat.le_of_ble_eq_true rfl, Nat.le_of_ble_eq_true rfl⟩ hl.1 (rest := []) rfl (Nat.le_of_ble_eq_true rfl)  [] rfl rfl dX5_knows_55 (fun r11 hw => ?_)
              have zzr11 := hw.1
              have hw := hw.2
              refine lv_if_eq (tgt := 70) hx hb dX5_knows_58 (by decide) (fun c12 => ?_) (fun c12 => ?_)
              · have hw := hw.1 c12
                refine lv_iconst (v := 0) hx hb dX5_knows_70 (by decide) ?_
                exact hRet (0 : Int32) _ _ ⟨ms_z0, hw⟩ ms_z0 dX5_knows_71
              · have hw := hw.2 c12
                refine lv_iload_n hx hb dX5_knows_61 rfl (lv_at hl 3 rfl) ?_
                refine lv_iconst (v := (-1)) hx hb dX5_knows_62 (by decide) ?_
                refine lv_icmp_ne (tgt := 70) hx hb dX5_knows_63 (by decide) (fun c13 => ?_) (fun c13 => ?_)
                · have hw := hw.2 c13
                  refine lv_iconst (v := 0) hx hb dX5_knows_70 (by decide) ?_
                  exact hRet (0 : Int32) _ _ ⟨ms_z0, hw⟩ ms_z0 dX5_knows_71
                · have hw := hw.1 c13
                  refine lv_iconst (v := 1) hx hb dX5_knows_66 (by decide) ?_
                  refine lv_goto (tgt := 71) hx hb dX5_knows_67 (by decide) ?_
                  exact hRet (1 : Int32) _ _ ⟨ms_z1, hw⟩ ms_z1 dX5_knows_71
          · have hw := hw.2 c8
            refine lv_iload_n hx hb dX5_knows_36 rfl (lv_at hl 3 rfl) ?_
            refine lv_if_ne (tgt := 44) hx hb dX5_knows_37 (by decide) (fun c14 => ?_) (fun c14 => ?_)
            · have hw := hw.2 c14
              refine lv_iconst (v := 0) hx hb dX5_knows_44 (by decide) ?_
              exact hRet (0 : Int32) _ _ ⟨ms_z0, hw⟩ ms_z0 dX5_knows_45
            · have hw := hw.1 c14
              refine lv_iconst (v := 1) hx hb dX5_knows_40 (by decide) ?_
              refine lv_goto (tgt := 45) hx hb dX5_knows_41 (by decide) ?_
              exact hRet (1 : Int32) _ _ ⟨ms_z1, hw⟩ ms_z1 dX5_knows_45
        · have hw := hw.2 c6
          refine lv_iconst (v := 0) hx hb dX5_knows_27 (by decide) ?_
          exact hRet (0 : Int32) _ _ ⟨ms_z0, hw⟩ ms_z0 dX5_knows_28
def wX5_holds (p0 : Int32) (p1 : Int32) (p2 : Int32) (p3 : Int32) (A_ways : Nat → Int32) (K : Int32 → Prop) : Prop :=
  (wX5_way p1 p2 A_ways (fun r1 => (wX5_pair p0 p3 (fun r2 => (((r1 &&& r2) = (0 : Int32) → K (0 : Int32)) ∧ (¬ (r1 &&& r2) = (0 : Int32) → K (1 : Int32)))))))
abbrev rmX5_holds : Room := { frames := 1, cells := 0, slots := 0, locals := 23 }
theorem nd_X5_holds : yX5_holds.cls = RX5 ∧ yX5_holds.cls ≠ "java/lang/invoke/MethodHandle" ∧ yX5_holds.cls ≠ "java/lang/invoke/VarHandle" ∧ (parseMethodDescriptor yX5_holds.desc).map (fun d => d.parameters.length) = some 4 := by decide +kernel
set_option maxHeartbeats 4000000 in
set_option maxRecDepth 100000 in
theorem c_X5_holds (l : Launch) (G : va_G) (cI cJ cZ : ClassId) (q_t q_t_ways : Nat) (F_states : Int32) (F_marks : Int32) (F_takes : Int32) (F_changes : Int32) (A_ways : Nat → Int32) (p0 : Int32) (p1 : Int32) (p2 : Int32) (p3 : Int32) {K : Int32 → Prop} (hw : wX5_holds p0 p1 p2 p3 A_ways K) : Met l yX5_holds wsX5_holds rmX5_holds (ms_P G (ms_T cI cJ cZ) [(q_t, .inr (5, [.ref q_t_ways, .int F_states, .int F_marks, .int F_takes, .int F_changes])), (q_t_ways, .inl (cI, 18, .inl A_ways))] [.ref q_t, .int p0, .int p1, .int p2, .int p3]) (ms_Qi (fun r : Int32 => ms_z r ∧ K r)) 0 0 ms_N := by
  refine ms_si (cc := cX5_holds) (maxL := 5) (ty := .boolean) (by decide) rfl (Nat.le_of_ble_eq_true rfl) ?_
  intro p e s m args below meth c Q hx hb hml hown hts hK hP hD hRet ls hl
  have hl : lv_has ls 5 [(0, .ref q_t), (1, .int p0), (2, .int p1), (3, .int p2), (4, .int p3)] := hl
  have hown : s.vm.findClass RX5 = some m.cls := hown
  refine lv_aload_n hx hb dX5_holds_0 rfl (lv_at hl 0 rfl) ?_
  refine lv_iload_n hx hb dX5_holds_1 rfl (lv_at hl 2 rfl) ?_
  refine lv_iload_n hx hb dX5_holds_2 rfl (lv_at hl 3 rfl) ?_
  refine ms_cVi ⟨hx, hb, hml, hown, hts⟩ hK hP hD (c_X5_way l G cI cJ cZ q_t q_t_ways F_states F_marks F_takes F_changes A_ways p1 p2 hw) gX5_holds_X5_way rfl nd_X5_way (ci := 5) rfl rfl rfl ⟨rfl, rfl⟩ rfl ⟨Nat.le_of_ble_eq_true rfl, Nat.le_of_ble_eq_true rfl⟩ hl.1 (rest := []) rfl (Nat.le_of_ble_eq_true rfl)  [0, 1] rfl rfl dX5_holds_3 (fun r1 hw => ?_)
  refine lv_iload_n hx hb dX5_holds_6 rfl (lv_at hl 1 rfl) ?_
  refine lv_iload hx hb dX5_holds_7 (lv_at hl 4 rfl) ?_
  refine ms_cSi ⟨hx, hb, hml, hown, hts⟩ hK hP hD (c_X5_pair l G cI cJ cZ p0 p3 hw) gX5_holds_X5_pair rfl nd_X5_pair ⟨rfl, rfl⟩ rfl ⟨Nat.le_of_ble_eq_true rfl, Nat.le_of_ble_eq_true rfl⟩ hl.1 (rest := [.int r1]) rfl (Nat.le_of_ble_eq_true rfl)  [] rfl rfl dX5_holds_9 (fun r2 hw => ?_)
  refine lv_iand hx hb dX5_holds_12 ?_
  refine lv_if_eq (tgt := 20) hx hb dX5_holds_13 (by decide) (fun c3 => ?_) (fun c3 => ?_)
  · have hw := hw.1 c3
    refine lv_iconst (v := 0) hx hb dX5_holds_20 (by decide) ?_
    exact hRet (0 : Int32) _ _ ⟨ms_z0, hw⟩ ms_z0 dX5_holds_21
  · have hw := hw.2 c3
    refine lv_iconst (v := 1) hx hb dX5_holds_16 (by decide) ?_
    refine lv_goto (tgt := 21) hx hb dX5_holds_17 (by decide) ?_
    exact hRet (1 : Int32) _ _ ⟨ms_z1, hw⟩ ms_z1 dX5_holds_21
def wX5_add (p0 : Int32) (p1 : Int32) (p2 : Int32) (p3 : Int32) (F_states : Int32) (F_marks : Int32) (F_changes : Int32) (A_ways : Nat → Int32) (K : Int32 → (Nat → Int32) → Prop) : Prop :=
  (wX5_knows p0 p1 p2 p3 F_states F_marks (fun r1 => ((r1 = (0 : Int32) → K F_changes A_ways) ∧ (¬ r1 = (0 : Int32) → (wX5_slot p1 p2 (fun r3 => (vp_in r3 18 ∧ (wX5_pair p0 p3 (fun r4 => (vp_in r3 18 ∧ (∀ g5 : Nat → Int32, g5 = upd A_ways r3.toNatClampNeg ((A_ways r3.toNatClampNeg) ||| r4) → (∀ x6 : Int32, x6 = (F_changes + (1 : Int32)) → K x6 g5))))))))))))
abbrev rmX5_add : Room := { frames := 2, cells := 0, slots := 0, locals := 45 }
theorem nd_X5_add : yX5_add.cls = RX5 ∧ yX5_add.cls ≠ "java/lang/invoke/MethodHandle" ∧ yX5_add.cls ≠ "java/lang/invoke/VarHandle" ∧ (parseMethodDescriptor yX5_add.desc).map (fun d => d.parameters.length) = some 4 := by decide +kernel
theorem hkX5_add_X5 : ∀ w ∈ u_ws RX5 TX5 5, w ∈ wsX5_add := fun w h => List.mem_cons_of_mem _ (inlX5 w h)
theorem hfX5_add_11 : (Cond.fieldLink RX5 11 "NestReaders$Reader" "ways" "[I") ∈ wsX5_add := List.mem_cons_of_mem _ m3_15
theorem hfX5_add_25 : (Cond.fieldLink RX5 25 "NestReaders$Reader" "changes" "I") ∈ wsX5_add := List.mem_cons_of_mem _ m3_19
set_option maxHeartbeats 4000000 in
set_option maxRecDepth 100000 in
theorem c_X5_add (l : Launch) (G : va_G) (cI cJ cZ : ClassId) (q_t q_t_ways : Nat) (sz : Nat) (F_states : Int32) (F_marks : Int32) (F_takes : Int32) (F_changes : Int32) (A_ways : Nat → Int32) (p0 : Int32) (p1 : Int32) (p2 : Int32) (p3 : Int32) {K : Int32 → (Nat → Int32) → Prop} (hw : wX5_add p0 p1 p2 p3 F_states F_marks F_changes A_ways K) : Met l yX5_add wsX5_add rmX5_add (ms_Pz G (ms_T cI cJ cZ) [(q_t, .inr (5, [.ref q_t_ways, .int F_states, .int F_marks, .int F_takes, .int F_changes])), (q_t_ways, .inl (cI, 18, .inl A_ways))] sz [.ref q_t, .int p0, .int p1, .int p2, .int p3]) (ms_Wv G (ms_T cI cJ cZ) (fun (u : Int32 × (Nat → Int32)) => K u.1 u.2) (fun u : Int32 × (Nat → Int32) => [(q_t, .inr (5, [.ref q_t_ways, .int F_states, .int F_marks, .int F_takes, .int u.1])), (q_t_ways, .inl (cI, 18, .inl u.2))]) (va_A [(q_t, .inr (5, [.ref q_t_ways, .int F_states, .int F_marks, .int F_takes, .int F_changes])), (q_t_ways, .inl (cI, 18, .inl A_ways))] sz)) 0 0 (va_A [(q_t, .inr (5, [.ref q_t_ways, .int F_states, .int F_marks, .int F_takes, .int F_changes])), (q_t_ways, .inl (cI, 18, .inl A_ways))] sz) := by
  refine ms_tv (cc := cX5_add) (maxL := 5) (by decide) rfl (Nat.le_of_ble_eq_true rfl) ?_
  intro p e s m args below meth c Q A hx hb hml hown hts hK hP hD hS hA hRet ls hl
  have hl : lv_has ls 5 [(0, .ref q_t), (1, .int p0), (2, .int p1), (3, .int p2), (4, .int p3)] := hl
  have hown : s.vm.findClass RX5 = some m.cls := hown
  refine lv_aload_n hx hb dX5_add_0 rfl (lv_at hl 0 rfl) ?_
  refine lv_iload_n hx hb dX5_add_1 rfl (lv_at hl 1 rfl) ?_
  refine lv_iload_n hx hb dX5_add_2 rfl (lv_at hl 2 rfl) ?_
  refine lv_iload_n hx hb dX5_add_3 rfl (lv_at hl 3 rfl) ?_
  refine lv_iload hx hb dX5_add_4 (lv_at hl 4 rfl) ?_
  refine ms_cVi ⟨hx, hb, hml, hown, hts⟩ hK hP hD (c_X5_knows l G cI cJ cZ q_t q_t_ways F_states F_marks F_takes F_changes p0 p1 p2 p3 hw) gX5_add_X5_knows rfl nd_X5_knows (ci := 5) rfl rfl rfl ⟨rfl, rfl⟩ rfl ⟨Nat.le_of_ble_eq_true rfl, Nat.le_of_ble_eq_true rfl⟩ hl.1 (rest := []) rfl (Nat.le_of_ble_eq_true rfl)  [0] rfl rfl dX5_add_6 (fun r1 hw => ?_)
  have zzr1 := hw.1
  have hw := hw.2
  refine lv_if_eq (tgt := 41) hx hb dX5_add_9 (by decide) (fun c2 => ?_) (fun c2 => ?_)
  · have hw := hw.1 c2
    exact hRet ⟨F_changes, A_ways⟩ s.heap [] _ _ hw hP hD hS dX5_add_41
  · have hw := hw.2 c2
    refine lv_aload_n hx hb dX5_add_12 rfl (lv_at hl 0 rfl) ?_
    refine va_get (D := G) (ci := 5) (v := .ref q_t_ways) (C := RX5) (T := TX5) (N := 5) hx hb hts hkX5_add_X5 hown hK hP 0 rfl rfl 0 (by decide) (hts (.fieldLink RX5 11 "NestReaders$Reader" "ways" "[I") hfX5_add_11) (fun _ h9 => h9) rfl dX5_add_13 ?_
    refine lv_iload_n hx hb dX5_add_16 rfl (lv_at hl 2 rfl) ?_
    refine lv_iload_n hx hb dX5_add_17 rfl (lv_at hl 3 rfl) ?_
    refine ms_cSi ⟨hx, hb, hml, hown, hts⟩ hK hP hD (c_X5_slot l G cI cJ cZ p1 p2 hw) gX5_add_X5_slot rfl nd_X5_slot ⟨rfl, rfl⟩ rfl ⟨Nat.le_of_ble_eq_true rfl, Nat.le_of_ble_eq_true rfl⟩ hl.1 (rest := [.ref q_t_ways]) rfl (Nat.le_of_ble_eq_true rfl)  [] rfl rfl dX5_add_18 (fun r3 hw => ?_)
    refine lv_dup2_11 hx hb dX5_add_21 rfl rfl ?_
    refine va_iald (D := G) hx hb hK hP 1 0 rfl rfl hw.1 dX5_add_22 ?_
    have hw := hw.2
    refine lv_iload_n hx hb dX5_add_23 rfl (lv_at hl 1 rfl) ?_
    refine lv_iload hx hb dX5_add_24 (lv_at hl 4 rfl) ?_
    refine ms_cSi ⟨hx, hb, hml, hown, hts⟩ hK hP hD (c_X5_pair l G cI cJ cZ p0 p3 hw) gX5_add_X5_pair rfl nd_X5_pair ⟨rfl, rfl⟩ rfl ⟨Nat.le_of_ble_eq_true rfl, Nat.le_of_ble_eq_true rfl⟩ hl.1 (rest := [.int (A_ways r3.toNatClampNeg), .int r3, .ref q_t_ways]) rfl (Nat.le_of_ble_eq_true rfl)  [] rfl rfl dX5_add_26 (fun r4 hw => ?_)
    refine lv_ior hx hb dX5_add_29 ?_
    refine ms_iast hx hb hK hP hD hS 1 0 rfl rfl hw.1 dX5_add_30 (fun g5 H locs eg5 hP hD hS => ?_)
    have hw := hw.2 g5 eg5
    have hP : va_P G vwCl [(q_t, .inr (5, [.ref q_t_ways, .int F_states, .int F_marks, .int F_takes, .int F_changes])), (q_t_ways, .inl (cI, 18, .inl g5))] H := hP
    have hD : va_D A [(q_t, .inr (5, [.ref q_t_ways, .int F_states, .int F_marks, .int F_takes, .int F_changes])), (q_t_ways, .inl (cI, 18, .inl g5))] := hD
    refine lv_aload_n hx hb dX5_add_31 rfl (lv_at hl 0 rfl) ?_
    refine lv_dup hx hb dX5_add_32 rfl ?_
    refine va_get (D := G) (ci := 5) (v := .int F_changes) (C := RX5) (T := TX5) (N := 5) hx hb hts hkX5_add_X5 hown hK hP 0 rfl rfl 4 (by decide) (hts (.fieldLink RX5 25 "NestReaders$Reader" "changes" "I") hfX5_add_25) (fun _ h9 => h9) rfl dX5_add_33 ?_
    refine lv_iconst (v := 1) hx hb dX5_add_36 (by decide) ?_
    refine lv_iadd hx hb dX5_add_37 ?_
    refine lv_topi (fun x6 ex6 => ?_)
    have hw := hw x6 ex6
    refine va_put (D := G) (ci := 5) (v := .int x6) (ty := .int) (C := RX5) (T := TX5) (N := 5) hx hb hts hkX5_add_X5 tyX5 tyX5_ok nmX5 hown hK hP hD hS 0 rfl rfl 4 (by decide) (hts (.fieldLink RX5 25 "NestReaders$Reader" "changes" "I") hfX5_add_25) (fun _ h9 => h9) rfl (by decide +kernel) rfl rfl (Nat.le_of_ble_eq_true rfl) dX5_add_38 (fun H locs hP hD hS => ?_)
    have hP : va_P G vwCl [(q_t, .inr (5, [.ref q_t_ways, .int F_states, .int F_marks, .int F_takes, .int x6])), (q_t_ways, .inl (cI, 18, .inl g5))] H := hP
    have hD : va_D A [(q_t, .inr (5, [.ref q_t_ways, .int F_states, .int F_marks, .int F_takes, .int x6])), (q_t_ways, .inl (cI, 18, .inl g5))] := hD
    exact hRet ⟨x6, g5⟩ H locs _ _ hw hP hD hS dX5_add_41
def wX5_remove (p0 : Int32) (p1 : Int32) (p2 : Int32) (p3 : Int32) (F_states : Int32) (F_marks : Int32) (F_changes : Int32) (A_ways : Nat → Int32) (K : Int32 → (Nat → Int32) → Prop) : Prop :=
  (wX5_knows p0 p1 p2 p3 F_states F_marks (fun r1 => ((r1 = (0 : Int32) → K F_changes A_ways) ∧ (¬ r1 = (0 : Int32) → (wX5_slot p1 p2 (fun r3 => (vp_in r3 18 ∧ (wX5_pair p0 p3 (fun r4 => (∀ x5 : Int32, x5 = ((A_ways r3.toNatClampNeg) &&& (r4 ^^^ (-1 : Int32))) → (vp_in r3 18 ∧ (∀ g6 : Nat → Int32, g6 = upd A_ways r3.toNatClampNeg x5 → (∀ x7 : Int32, x7 = (F_changes + (1 : Int32)) → K x7 g6)))))))))))))
abbrev rmX5_remove : Room := { frames := 2, cells := 0, slots := 0, locals := 45 }
theorem nd_X5_remove : yX5_remove.cls = RX5 ∧ yX5_remove.cls ≠ "java/lang/invoke/MethodHandle" ∧ yX5_remove.cls ≠ "java/lang/invoke/VarHandle" ∧ (parseMethodDescriptor yX5_remove.desc).map (fun d => d.parameters.length) = some 4 := by decide +kernel
theorem hkX5_remove_X5 : ∀ w ∈ u_ws RX5 TX5 5, w ∈ wsX5_remove := fun w h => List.mem_cons_of_mem _ (inlX5 w h)
theorem hfX5_remove_11 : (Cond.fieldLink RX5 11 "NestReaders$Reader" "ways" "[I") ∈ wsX5_remove := List.mem_cons_of_mem _ m3_15
theorem hfX5_remove_25 : (Cond.fieldLink RX5 25 "NestReaders$Reader" "changes" "I") ∈ wsX5_remove := List.mem_cons_of_mem _ m3_19
set_option maxHeartbeats 4000000 in
set_option maxRecDepth 100000 in
theorem c_X5_remove (l : Launch) (G : va_G) (cI cJ cZ : ClassId) (q_t q_t_ways : Nat) (sz : Nat) (F_states : Int32) (F_marks : Int32) (F_takes : Int32) (F_changes : Int32) (A_ways : Nat → Int32) (p0 : Int32) (p1 : Int32) (p2 : Int32) (p3 : Int32) {K : Int32 → (Nat → Int32) → Prop} (hw : wX5_remove p0 p1 p2 p3 F_states F_marks F_changes A_ways K) : Met l yX5_remove wsX5_remove rmX5_remove (ms_Pz G (ms_T cI cJ cZ) [(q_t, .inr (5, [.ref q_t_ways, .int F_states, .int F_marks, .int F_takes, .int F_changes])), (q_t_ways, .inl (cI, 18, .inl A_ways))] sz [.ref q_t, .int p0, .int p1, .int p2, .int p3]) (ms_Wv G (ms_T cI cJ cZ) (fun (u : Int32 × (Nat → Int32)) => K u.1 u.2) (fun u : Int32 × (Nat → Int32) => [(q_t, .inr (5, [.ref q_t_ways, .int F_states, .int F_marks, .int F_takes, .int u.1])), (q_t_ways, .inl (cI, 18, .inl u.2))]) (va_A [(q_t, .inr (5, [.ref q_t_ways, .int F_states, .int F_marks, .int F_takes, .int F_changes])), (q_t_ways, .inl (cI, 18, .inl A_ways))] sz)) 0 0 (va_A [(q_t, .inr (5, [.ref q_t_ways, .int F_states, .int F_marks, .int F_takes, .int F_changes])), (q_t_ways, .inl (cI, 18, .inl A_ways))] sz) := by
  refine ms_tv (cc := cX5_remove) (maxL := 5) (by decide) rfl (Nat.le_of_ble_eq_true rfl) ?_
  intro p e s m args below meth c Q A hx hb hml hown hts hK hP hD hS hA hRet ls hl
  have hl : lv_has ls 5 [(0, .ref q_t), (1, .int p0), (2, .int p1), (3, .int p2), (4, .int p3)] := hl
  have hown : s.vm.findClass RX5 = some m.cls := hown
  refine lv_aload_n hx hb dX5_remove_0 rfl (lv_at hl 0 rfl) ?_
  refine lv_iload_n hx hb dX5_remove_1 rfl (lv_at hl 1 rfl) ?_
  refine lv_iload_n hx hb dX5_remove_2 rfl (lv_at hl 2 rfl) ?_
  refine lv_iload_n hx hb dX5_remove_3 rfl (lv_at hl 3 rfl) ?_
  refine lv_iload hx hb dX5_remove_4 (lv_at hl 4 rfl) ?_
  refine ms_cVi ⟨hx, hb, hml, hown, hts⟩ hK hP hD (c_X5_knows l G cI cJ cZ q_t q_t_ways F_states F_marks F_takes F_changes p0 p1 p2 p3 hw) gX5_remove_X5_knows rfl nd_X5_knows (ci := 5) rfl rfl rfl ⟨rfl, rfl⟩ rfl ⟨Nat.le_of_ble_eq_true rfl, Nat.le_of_ble_eq_true rfl⟩ hl.1 (rest := []) rfl (Nat.le_of_ble_eq_true rfl)  [0] rfl rfl dX5_remove_6 (fun r1 hw => ?_)
  have zzr1 := hw.1
  have hw := hw.2
  refine lv_if_eq (tgt := 43) hx hb dX5_remove_9 (by decide) (fun c2 => ?_) (fun c2 => ?_)
  · have hw := hw.1 c2
    exact hRet ⟨F_changes, A_ways⟩ s.heap [] _ _ hw hP hD hS dX5_remove_43
  · have hw := hw.2 c2
    refine lv_aload_n hx hb dX5_remove_12 rfl (lv_at hl 0 rfl) ?_
    refine va_get (D := G) (ci := 5) (v := .ref q_t_ways) (C := RX5) (T := TX5) (N := 5) hx hb hts hkX5_remove_X5 hown hK hP 0 rfl rfl 0 (by decide) (hts (.fieldLink RX5 11 "NestReaders$Reader" "ways" "[I") hfX5_remove_11) (fun _ h9 => h9) rfl dX5_remove_13 ?_
    refine lv_iload_n hx hb dX5_remove_16 rfl (lv_at hl 2 rfl) ?_
    refine lv_iload_n hx hb dX5_remove_17 rfl (lv_at hl 3 rfl) ?_
    refine ms_cSi ⟨hx, hb, hml, hown, hts⟩ hK hP hD (c_X5_slot l G cI cJ cZ p1 p2 hw) gX5_remove_X5_slot rfl nd_X5_slot ⟨rfl, rfl⟩ rfl ⟨Nat.le_of_ble_eq_true rfl, Nat.le_of_ble_eq_true rfl⟩ hl.1 (rest := [.ref q_t_ways]) rfl (Nat.le_of_ble_eq_true rfl)  [] rfl rfl dX5_remove_18 (fun r3 hw => ?_)
    refine lv_dup2_11 hx hb dX5_remove_21 rfl rfl ?_
    refine va_iald (D := G) hx hb hK hP 1 0 rfl rfl hw.1 dX5_remove_22 ?_
    have hw := hw.2
    refine lv_iload_n hx hb dX5_remove_23 rfl (lv_at hl 1 rfl) ?_
    refine lv_iload hx hb dX5_remove_24 (lv_at hl 4 rfl) ?_
    refine ms_cSi ⟨hx, hb, hml, hown, hts⟩ hK hP hD (c_X5_pair l G cI cJ cZ p0 p3 hw) gX5_remove_X5_pair rfl nd_X5_pair ⟨rfl, rfl⟩ rfl ⟨Nat.le_of_ble_eq_true rfl, Nat.le_of_ble_eq_true rfl⟩ hl.1 (rest := [.int (A_ways r3.toNatClampNeg), .int r3, .ref q_t_ways]) rfl (Nat.le_of_ble_eq_true rfl)  [] rfl rfl dX5_remove_26 (fun r4 hw => ?_)
    refine lv_iconst (v := (-1)) hx hb dX5_remove_29 (by decide) ?_
    refine lv_ixor hx hb dX5_remove_30 ?_
    refine lv_iand hx hb dX5_remove_31 ?_
    refine lv_topi (fun x5 ex5 => ?_)
    have hw := hw x5 ex5
    refine ms_iast hx hb hK hP hD hS 1 0 rfl rfl hw.1 dX5_remove_32 (fun g6 H locs eg6 hP hD hS => ?_)
    have hw := hw.2 g6 eg6
    have hP : va_P G vwCl [(q_t, .inr (5, [.ref q_t_ways, .int F_states, .int F_marks, .int F_takes, .int F_changes])), (q_t_ways, .inl (cI, 18, .inl g6))] H := hP
    have hD : va_D A [(q_t, .inr (5, [.ref q_t_ways, .int F_states, .int F_marks, .int F_takes, .int F_changes])), (q_t_ways, .inl (cI, 18, .inl g6))] := hD
    refine lv_aload_n hx hb dX5_remove_33 rfl (lv_at hl 0 rfl) ?_
    refine lv_dup hx hb dX5_remove_34 rfl ?_
    refine va_get (D := G) (ci := 5) (v := .int F_changes) (C := RX5) (T := TX5) (N := 5) hx hb hts hkX5_remove_X5 hown hK hP 0 rfl rfl 4 (by decide) (hts (.fieldLink RX5 25 "NestReaders$Reader" "changes" "I") hfX5_remove_25) (fun _ h9 => h9) rfl dX5_remove_35 ?_
    refine lv_iconst (v := 1) hx hb dX5_remove_38 (by decide) ?_
    refine lv_iadd hx hb dX5_remove_39 ?_
    refine lv_topi (fun x7 ex7 => ?_)
    have hw := hw x7 ex7
    refine va_put (D := G) (ci := 5) (v := .int x7) (ty := .int) (C := RX5) (T := TX5) (N := 5) hx hb hts hkX5_remove_X5 tyX5 tyX5_ok nmX5 hown hK hP hD hS 0 rfl rfl 4 (by decide) (hts (.fieldLink RX5 25 "NestReaders$Reader" "changes" "I") hfX5_remove_25) (fun _ h9 => h9) rfl (by decide +kernel) rfl rfl (Nat.le_of_ble_eq_true rfl) dX5_remove_40 (fun H locs hP hD hS => ?_)
    have hP : va_P G vwCl [(q_t, .inr (5, [.ref q_t_ways, .int F_states, .int F_marks, .int F_takes, .int x7])), (q_t_ways, .inl (cI, 18, .inl g6))] H := hP
    have hD : va_D A [(q_t, .inr (5, [.ref q_t_ways, .int F_states, .int F_marks, .int F_takes, .int x7])), (q_t_ways, .inl (cI, 18, .inl g6))] := hD
    exact hRet ⟨x7, g6⟩ H locs _ _ hw hP hD hS dX5_remove_43
def wX5_alone (p0 : Int32) (A_ways : Nat → Int32) (K : Int32 → Prop) : Prop :=
  (wX5_closes p0 (fun r1 => ((r1 = (0 : Int32) → (wX5_way p0 (0 : Int32) A_ways (fun r3 => (wX5_way p0 (1 : Int32) A_ways (fun r4 => K (r3 ||| r4)))))) ∧ (¬ r1 = (0 : Int32) → (wX5_way p0 (-1 : Int32) A_ways (fun r5 => K r5))))))
abbrev rmX5_alone : Room := { frames := 1, cells := 0, slots := 0, locals := 23 }
theorem nd_X5_alone : yX5_alone.cls = RX5 ∧ yX5_alone.cls ≠ "java/lang/invoke/MethodHandle" ∧ yX5_alone.cls ≠ "java/lang/invoke/VarHandle" ∧ (parseMethodDescriptor yX5_alone.desc).map (fun d => d.parameters.length) = some 1 := by decide +kernel
set_option maxHeartbeats 4000000 in
set_option maxRecDepth 100000 in
theorem c_X5_alone (l : Launch) (G : va_G) (cI cJ cZ : ClassId) (q_t q_t_ways : Nat) (F_states : Int32) (F_marks : Int32) (F_takes : Int32) (F_changes : Int32) (A_ways : Nat → Int32) (p0 : Int32) {K : Int32 → Prop} (hw : wX5_alone p0 A_ways K) : Met l yX5_alone wsX5_alone rmX5_alone (ms_P G (ms_T cI cJ cZ) [(q_t, .inr (5, [.ref q_t_ways, .int F_states, .int F_marks, .int F_takes, .int F_changes])), (q_t_ways, .inl (cI, 18, .inl A_ways))] [.ref q_t, .int p0]) (ms_Qi K) 0 0 ms_N := by
  refine ms_si (cc := cX5_alone) (maxL := 2) (ty := .int) (by decide) rfl (Nat.le_of_ble_eq_true rfl) ?_
  intro p e s m args below meth c Q hx hb hml hown hts hK hP hD hRet ls hl
  have hl : lv_has ls 2 [(0, .ref q_t), (1, .int p0)] := hl
  have hown : s.vm.findClass RX5 = some m.cls := hown
  refine lv_iload_n hx hb dX5_alone_0 rfl (lv_at hl 1 rfl) ?_
  refine ms_cSi ⟨hx, hb, hml, hown, hts⟩ hK hP hD (c_X5_closes l G cI cJ cZ p0 hw) gX5_alone_X5_closes rfl nd_X5_closes ⟨rfl, rfl⟩ rfl ⟨Nat.le_of_ble_eq_true rfl, Nat.le_of_ble_eq_true rfl⟩ hl.1 (rest := []) rfl (Nat.le_of_ble_eq_true rfl)  [] rfl rfl dX5_alone_1 (fun r1 hw => ?_)
  have zzr1 := hw.1
  have hw := hw.2
  refine lv_if_eq (tgt := 16) hx hb dX5_alone_4 (by decide) (fun c2 => ?_) (fun c2 => ?_)
  · have hw := hw.1 c2
    refine lv_aload_n hx hb dX5_alone_16 rfl (lv_at hl 0 rfl) ?_
    refine lv_iload_n hx hb dX5_alone_17 rfl (lv_at hl 1 rfl) ?_
    refine lv_iconst (v := 0) hx hb dX5_alone_18 (by decide) ?_
    refine ms_cVi ⟨hx, hb, hml, hown, hts⟩ hK hP hD (c_X5_way l G cI cJ cZ q_t q_t_ways F_states F_marks F_takes F_changes A_ways p0 (0 : Int32) hw) gX5_alone_X5_way rfl nd_X5_way (ci := 5) rfl rfl rfl ⟨rfl, rfl⟩ rfl ⟨Nat.le_of_ble_eq_true rfl, Nat.le_of_ble_eq_true rfl⟩ hl.1 (rest := []) rfl (Nat.le_of_ble_eq_true rfl)  [0, 1] rfl rfl dX5_alone_19 (fun r3 hw => ?_)
    refine lv_aload_n hx hb dX5_alone_22 rfl (lv_at hl 0 rfl) ?_
    refine lv_iload_n hx hb dX5_alone_23 rfl (lv_at hl 1 rfl) ?_
    refine lv_iconst (v := 1) hx hb dX5_alone_24 (by decide) ?_
    refine ms_cVi ⟨hx, hb, hml, hown, hts⟩ hK hP hD (c_X5_way l G cI cJ cZ q_t q_t_ways F_states F_marks F_takes F_changes A_ways p0 (1 : Int32) hw) gX5_alone_X5_way rfl nd_X5_way (ci := 5) rfl rfl rfl ⟨rfl, rfl⟩ rfl ⟨Nat.le_of_ble_eq_true rfl, Nat.le_of_ble_eq_true rfl⟩ hl.1 (rest := [.int r3]) rfl (Nat.le_of_ble_eq_true rfl)  [0, 1] rfl rfl dX5_alone_25 (fun r4 hw => ?_)
    refine lv_ior hx hb dX5_alone_28 ?_
    exact hRet (r3 ||| r4) _ _ hw (vp_nar_int _) dX5_alone_29
  · have hw := hw.2 c2
    refine lv_aload_n hx hb dX5_alone_7 rfl (lv_at hl 0 rfl) ?_
    refine lv_iload_n hx hb dX5_alone_8 rfl (lv_at hl 1 rfl) ?_
    refine lv_iconst (v := (-1)) hx hb dX5_alone_9 (by decide) ?_
    refine ms_cVi ⟨hx, hb, hml, hown, hts⟩ hK hP hD (c_X5_way l G cI cJ cZ q_t q_t_ways F_states F_marks F_takes F_changes A_ways p0 (-1 : Int32) hw) gX5_alone_X5_way rfl nd_X5_way (ci := 5) rfl rfl rfl ⟨rfl, rfl⟩ rfl ⟨Nat.le_of_ble_eq_true rfl, Nat.le_of_ble_eq_true rfl⟩ hl.1 (rest := []) rfl (Nat.le_of_ble_eq_true rfl)  [0, 1] rfl rfl dX5_alone_10 (fun r5 hw => ?_)
    refine lv_goto (tgt := 29) hx hb dX5_alone_13 (by decide) ?_
    exact hRet r5 _ _ hw (vp_nar_int _) dX5_alone_29
def wX5_identity_L4 (F_states : Int32) (E4 : Int32 → Int32 → Prop) (i4_1 : Int32) (i4_2 : Int32) : Prop :=
  ∀ P4 : Int32 → Int32 → Prop, (∀ (i4_1 : Int32) (i4_2 : Int32), ((F_states ≤ i4_2 → E4 i4_1 i4_2) ∧ (¬ F_states ≤ i4_2 → (wX5_pair i4_2 i4_2 (fun r2 => (∀ x3 : Int32, x3 = (i4_1 ||| r2) → (∀ x4 : Int32, x4 = i4_2 + (1 : Int32) → P4 x3 x4)))))) → P4 i4_1 i4_2) → P4 i4_1 i4_2
def wX5_identity (F_states : Int32) (K : Int32 → Prop) : Prop :=
  (wX5_identity_L4 F_states (fun i4_1 i4_2 => K i4_1) (0 : Int32) (0 : Int32))
abbrev rmX5_identity : Room := { frames := 1, cells := 0, slots := 0, locals := 21 }
theorem nd_X5_identity : yX5_identity.cls = RX5 ∧ yX5_identity.cls ≠ "java/lang/invoke/MethodHandle" ∧ yX5_identity.cls ≠ "java/lang/invoke/VarHandle" ∧ (parseMethodDescriptor yX5_identity.desc).map (fun d => d.parameters.length) = some 0 := by decide +kernel
theorem hkX5_identity_X5 : ∀ w ∈ u_ws RX5 TX5 5, w ∈ wsX5_identity := fun w h => List.mem_cons_of_mem _ (inlX5 w h)
theorem hfX5_identity_15 : (Cond.fieldLink RX5 15 "NestReaders$Reader" "states" "I") ∈ wsX5_identity := List.mem_cons_of_mem _ m3_16
set_option maxHeartbeats 4000000 in
set_option maxRecDepth 100000 in
theorem c_X5_identity (l : Launch) (G : va_G) (cI cJ cZ : ClassId) (q_t q_t_ways : Nat) (F_states : Int32) (F_marks : Int32) (F_takes : Int32) (F_changes : Int32) {K : Int32 → Prop} (hw : wX5_identity F_states K) : Met l yX5_identity wsX5_identity rmX5_identity (ms_P G (ms_T cI cJ cZ) [(q_t, .inr (5, [.ref q_t_ways, .int F_states, .int F_marks, .int F_takes, .int F_changes]))] [.ref q_t]) (ms_Qi K) 0 0 ms_N := by
  refine ms_si (cc := cX5_identity) (maxL := 3) (ty := .int) (by decide) rfl (Nat.le_of_ble_eq_true rfl) ?_
  intro p e s m args below meth c Q hx hb hml hown hts hK hP hD hRet ls hl
  have hl : lv_has ls 3 [(0, .ref q_t)] := hl
  have hown : s.vm.findClass RX5 = some m.cls := hown
  refine lv_iconst (v := 0) hx hb dX5_identity_0 (by decide) ?_
  refine lv_istore_n (lv' := [(1, .int (0 : Int32)), (0, .ref q_t)]) hx hb dX5_identity_1 rfl hl (by decide) rfl (fun ls hl => ?_)
  refine lv_iconst (v := 0) hx hb dX5_identity_2 (by decide) ?_
  refine lv_istore_n (lv' := [(2, .int (0 : Int32)), (1, .int (0 : Int32)), (0, .ref q_t)]) hx hb dX5_identity_3 rfl hl (by decide) rfl (fun ls hl => ?_)
  refine hw (fun i4_1 i4_2 => ∀ ls : Array Slot, lv_has ls 3 [(0, .ref q_t), (1, .int i4_1), (2, .int i4_2)] → W p l e rmX5_identity s m args below meth c s.heap [] 0 0 Q (F0 m 4 ls [])) (fun i4_1 i4_2 hw ls hl => ?_) ls (lv_sub hl [2, 1, 0] rfl)
  refine lv_iload_n hx hb dX5_identity_4 rfl (lv_at hl 2 rfl) ?_
  refine lv_aload_n hx hb dX5_identity_5 rfl (lv_at hl 0 rfl) ?_
  refine va_get (D := G) (ci := 5) (v := .int F_states) (C := RX5) (T := TX5) (N := 5) hx hb hts hkX5_identity_X5 hown hK hP 0 rfl rfl 1 (by decide) (hts (.fieldLink RX5 15 "NestReaders$Reader" "states" "I") hfX5_identity_15) (fun _ h9 => h9) rfl dX5_identity_6 ?_
  refine lv_icmp_ge (tgt := 26) hx hb dX5_identity_9 (by decide) (fun c1 => ?_) (fun c1 => ?_)
  · have hw := hw.1 c1
    refine lv_iload_n hx hb dX5_identity_26 rfl (lv_at hl 1 rfl) ?_
    exact hRet i4_1 _ _ hw (vp_nar_int _) dX5_identity_27
  · have hw := hw.2 c1
    refine lv_iload_n hx hb dX5_identity_12 rfl (lv_at hl 1 rfl) ?_
    refine lv_iload_n hx hb dX5_identity_13 rfl (lv_at hl 2 rfl) ?_
    refine lv_iload_n hx hb dX5_identity_14 rfl (lv_at hl 2 rfl) ?_
    refine ms_cSi ⟨hx, hb, hml, hown, hts⟩ hK hP hD (c_X5_pair l G cI cJ cZ i4_2 i4_2 hw) gX5_identity_X5_pair rfl nd_X5_pair ⟨rfl, rfl⟩ rfl ⟨Nat.le_of_ble_eq_true rfl, Nat.le_of_ble_eq_true rfl⟩ hl.1 (rest := [.int i4_1]) rfl (Nat.le_of_ble_eq_true rfl)  [] rfl rfl dX5_identity_15 (fun r2 hw => ?_)
    refine lv_ior hx hb dX5_identity_18 ?_
    refine lv_topi (fun x3 ex3 => ?_)
    have hw := hw x3 ex3
    refine lv_istore_n (lv' := [(1, .int x3), (0, .ref q_t), (2, .int i4_2)]) hx hb dX5_identity_19 rfl hl (by decide) rfl (fun ls hl => ?_)
    obtain ⟨x4, ex4⟩ : ∃ y : Int32, y = i4_2 + (1 : Int32) := ⟨_, rfl⟩
    have hw := hw x4 ex4
    refine lv_iinc (v := x4) (lv' := [(2, .int x4), (1, .int x3), (0, .ref q_t)]) hx hb dX5_identity_20 hl (k := 2) rfl (by rw [ex4]; rfl) (by decide) rfl (fun ls hl => ?_)
    refine lv_goto (tgt := 4) hx hb dX5_identity_23 (by decide) ?_
    exact hw ls (lv_sub hl [2, 1, 0] rfl)
def wX5_wrapped_L6 (p0 : Int32) (p1 : Int32) (p2 : Int32) (F_marks : Int32) (A_ways : Nat → Int32) (E6 : Int32 → Int32 → Prop) (i6_4 : Int32) (i6_5 : Int32) : Prop :=
  ∀ P6 : Int32 → Int32 → Prop, (∀ (i6_4 : Int32) (i6_5 : Int32), ((F_marks ≤ i6_5 → E6 i6_4 i6_5) ∧ (¬ F_marks ≤ i6_5 → ((p2 = (0 : Int32) → E6 i6_4 i6_5) ∧ (¬ p2 = (0 : Int32) → (wX5_way p0 i6_5 A_ways (fun r3 => (wX5_then r3 p2 (fun r4 => (wX5_way p1 i6_5 A_ways (fun r5 => (wX5_then r4 r5 (fun r6 => (∀ x7 : Int32, x7 = (i6_4 ||| r6) → (∀ x8 : Int32, x8 = i6_5 + (1 : Int32) → P6 x7 x8)))))))))))))) → P6 i6_4 i6_5) → P6 i6_4 i6_5
def wX5_wrapped (p0 : Int32) (p1 : Int32) (p2 : Int32) (F_marks : Int32) (A_ways : Nat → Int32) (K : Int32 → Prop) : Prop :=
  (∀ E6 : Int32 → Int32 → Prop, (∀ (i6_4 : Int32) (i6_5 : Int32), K i6_4 → E6 i6_4 i6_5) → wX5_wrapped_L6 p0 p1 p2 F_marks A_ways E6 (0 : Int32) (0 : Int32))
abbrev rmX5_wrapped : Room := { frames := 2, cells := 0, slots := 0, locals := 43 }
theorem nd_X5_wrapped : yX5_wrapped.cls = RX5 ∧ yX5_wrapped.cls ≠ "java/lang/invoke/MethodHandle" ∧ yX5_wrapped.cls ≠ "java/lang/invoke/VarHandle" ∧ (parseMethodDescriptor yX5_wrapped.desc).map (fun d => d.parameters.length) = some 3 := by decide +kernel
theorem hkX5_wrapped_X5 : ∀ w ∈ u_ws RX5 TX5 5, w ∈ wsX5_wrapped := fun w h => List.mem_cons_of_mem _ (inlX5 w h)
theorem hfX5_wrapped_19 : (Cond.fieldLink RX5 19 "NestReaders$Reader" "marks" "I") ∈ wsX5_wrapped := List.mem_cons_of_mem _ m3_17
set_option maxHeartbeats 4000000 in
set_option maxRecDepth 100000 in
theorem c_X5_wrapped (l : Launch) (G : va_G) (cI cJ cZ : ClassId) (q_t q_t_ways : Nat) (F_states : Int32) (F_marks : Int32) (F_takes : Int32) (F_changes : Int32) (A_ways : Nat → Int32) (p0 : Int32) (p1 : Int32) (p2 : Int32) {K : Int32 → Prop} (hw : wX5_wrapped p0 p1 p2 F_marks A_ways K) : Met l yX5_wrapped wsX5_wrapped rmX5_wrapped (ms_P G (ms_T cI cJ cZ) [(q_t, .inr (5, [.ref q_t_ways, .int F_states, .int F_marks, .int F_takes, .int F_changes])), (q_t_ways, .inl (cI, 18, .inl A_ways))] [.ref q_t, .int p0, .int p1, .int p2]) (ms_Qi K) 0 0 ms_N := by
  refine ms_si (cc := cX5_wrapped) (maxL := 6) (ty := .int) (by decide) rfl (Nat.le_of_ble_eq_true rfl) ?_
  intro p e s m args below meth c Q hx hb hml hown hts hK hP hD hRet ls hl
  have hl : lv_has ls 6 [(0, .ref q_t), (1, .int p0), (2, .int p1), (3, .int p2)] := hl
  have hown : s.vm.findClass RX5 = some m.cls := hown
  refine lv_iconst (v := 0) hx hb dX5_wrapped_0 (by decide) ?_
  refine lv_istore (lv' := [(4, .int (0 : Int32)), (0, .ref q_t), (1, .int p0), (2, .int p1), (3, .int p2)]) hx hb dX5_wrapped_1 hl (by decide) rfl (fun ls hl => ?_)
  refine lv_iconst (v := 0) hx hb dX5_wrapped_3 (by decide) ?_
  refine lv_istore (lv' := [(5, .int (0 : Int32)), (4, .int (0 : Int32)), (0, .ref q_t), (1, .int p0), (2, .int p1), (3, .int p2)]) hx hb dX5_wrapped_4 hl (by decide) rfl (fun ls hl => ?_)
  have hw := hw (fun i6_4 i6_5 => ∀ ls : Array Slot, lv_has ls 6 [(4, .int i6_4)] → W p l e rmX5_wrapped s m args below meth c s.heap [] 0 0 Q (F0 m 51 ls [])) (fun i6_4 i6_5 hw ls hl => by
    refine lv_iload hx hb dX5_wrapped_51 (lv_at hl 0 rfl) ?_
    exact hRet i6_4 _ _ hw (vp_nar_int _) dX5_wrapped_53
    )
  refine hw (fun i6_4 i6_5 => ∀ ls : Array Slot, lv_has ls 6 [(0, .ref q_t), (1, .int p0), (2, .int p1), (3, .int p2), (4, .int i6_4), (5, .int i6_5)] → W p l e rmX5_wrapped s m args below meth c s.heap [] 0 0 Q (F0 m 6 ls [])) (fun i6_4 i6_5 hw ls hl => ?_) ls (lv_sub hl [2, 3, 4, 5, 1, 0] rfl)
  refine lv_iload hx hb dX5_wrapped_6 (lv_at hl 5 rfl) ?_
  refine lv_aload_n hx hb dX5_wrapped_8 rfl (lv_at hl 0 rfl) ?_
  refine va_get (D := G) (ci := 5) (v := .int F_marks) (C := RX5) (T := TX5) (N := 5) hx hb hts hkX5_wrapped_X5 hown hK hP 0 rfl rfl 2 (by decide) (hts (.fieldLink RX5 19 "NestReaders$Reader" "marks" "I") hfX5_wrapped_19) (fun _ h9 => h9) rfl dX5_wrapped_9 ?_
  refine lv_icmp_ge (tgt := 51) hx hb dX5_wrapped_12 (by decide) (fun c1 => ?_) (fun c1 => ?_)
  · have hw := hw.1 c1
    exact hw ls (lv_sub hl [4] rfl)
  · have hw := hw.2 c1
    refine lv_iload_n hx hb dX5_wrapped_15 rfl (lv_at hl 3 rfl) ?_
    refine lv_if_eq (tgt := 51) hx hb dX5_wrapped_16 (by decide) (fun c2 => ?_) (fun c2 => ?_)
    · have hw := hw.1 c2
      exact hw ls (lv_sub hl [4] rfl)
    · have hw := hw.2 c2
      refine lv_iload hx hb dX5_wrapped_19 (lv_at hl 4 rfl) ?_
      refine lv_aload_n hx hb dX5_wrapped_21 rfl (lv_at hl 0 rfl) ?_
      refine lv_iload_n hx hb dX5_wrapped_22 rfl (lv_at hl 1 rfl) ?_
      refine lv_iload hx hb dX5_wrapped_23 (lv_at hl 5 rfl) ?_
      refine ms_cVi ⟨hx, hb, hml, hown, hts⟩ hK hP hD (c_X5_way l G cI cJ cZ q_t q_t_ways F_states F_marks F_takes F_changes A_ways p0 i6_5 hw) gX5_wrapped_X5_way rfl nd_X5_way (ci := 5) rfl rfl rfl ⟨rfl, rfl⟩ rfl ⟨Nat.le_of_ble_eq_true rfl, Nat.le_of_ble_eq_true rfl⟩ hl.1 (rest := [.int i6_4]) rfl (Nat.le_of_ble_eq_true rfl)  [0, 1] rfl rfl dX5_wrapped_25 (fun r3 hw => ?_)
      refine lv_iload_n hx hb dX5_wrapped_28 rfl (lv_at hl 3 rfl) ?_
      refine ms_cSi ⟨hx, hb, hml, hown, hts⟩ hK hP hD (c_X5_then l G cI cJ cZ r3 p2 hw) gX5_wrapped_X5_then rfl nd_X5_then ⟨rfl, rfl⟩ rfl ⟨Nat.le_of_ble_eq_true rfl, Nat.le_of_ble_eq_true rfl⟩ hl.1 (rest := [.int i6_4]) rfl (Nat.le_of_ble_eq_true rfl)  [] rfl rfl dX5_wrapped_29 (fun r4 hw => ?_)
      refine lv_aload_n hx hb dX5_wrapped_32 rfl (lv_at hl 0 rfl) ?_
      refine lv_iload_n hx hb dX5_wrapped_33 rfl (lv_at hl 2 rfl) ?_
      refine lv_iload hx hb dX5_wrapped_34 (lv_at hl 5 rfl) ?_
      refine ms_cVi ⟨hx, hb, hml, hown, hts⟩ hK hP hD (c_X5_way l G cI cJ cZ q_t q_t_ways F_states F_marks F_takes F_changes A_ways p1 i6_5 hw) gX5_wrapped_X5_way rfl nd_X5_way (ci := 5) rfl rfl rfl ⟨rfl, rfl⟩ rfl ⟨Nat.le_of_ble_eq_true rfl, Nat.le_of_ble_eq_true rfl⟩ hl.1 (rest := [.int r4, .int i6_4]) rfl (Nat.le_of_ble_eq_true rfl)  [0, 1] rfl rfl dX5_wrapped_36 (fun r5 hw => ?_)
      refine ms_cSi ⟨hx, hb, hml, hown, hts⟩ hK hP hD (c_X5_then l G cI cJ cZ r4 r5 hw) gX5_wrapped_X5_then rfl nd_X5_then ⟨rfl, rfl⟩ rfl ⟨Nat.le_of_ble_eq_true rfl, Nat.le_of_ble_eq_true rfl⟩ hl.1 (rest := [.int i6_4]) rfl (Nat.le_of_ble_eq_true rfl)  [] rfl rfl dX5_wrapped_39 (fun r6 hw => ?_)
      refine lv_ior hx hb dX5_wrapped_42 ?_
      refine lv_topi (fun x7 ex7 => ?_)
      have hw := hw x7 ex7
      refine lv_istore (lv' := [(4, .int x7), (0, .ref q_t), (1, .int p0), (2, .int p1), (3, .int p2), (5, .int i6_5)]) hx hb dX5_wrapped_43 hl (by decide) rfl (fun ls hl => ?_)
      obtain ⟨x8, ex8⟩ : ∃ y : Int32, y = i6_5 + (1 : Int32) := ⟨_, rfl⟩
      have hw := hw x8 ex8
      refine lv_iinc (v := x8) (lv' := [(5, .int x8), (4, .int x7), (0, .ref q_t), (1, .int p0), (2, .int p1), (3, .int p2)]) hx hb dX5_wrapped_45 hl (k := 5) rfl (by rw [ex8]; rfl) (by decide) rfl (fun ls hl => ?_)
      refine lv_goto (tgt := 6) hx hb dX5_wrapped_48 (by decide) ?_
      exact hw ls (lv_sub hl [2, 3, 4, 5, 1, 0] rfl)
