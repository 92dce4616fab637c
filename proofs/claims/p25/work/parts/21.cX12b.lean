def wX12_fault (p0 : Int32) (F_bytes : Int32) (F_position : Int32) (F_tokenAt : Int32) (F_token : Int64) (F_digits : Int32) (F_number : Int32) (F_faultAt : Int32) (F_readMany : Int32) (A_states : Nat → Int32) (A_markMany : Nat → Int32) (A_text : Nat → Int32) (A_read : Nat → Int32) (K : Int32 → Int32 → Int32 → Int64 → Int32 → Int32 → Int32 → Int32 → (Nat → Int32) → Prop) : Prop :=
  (wX12_isReader p0 (fun r1 => ((r1 = (0 : Int32) → K (-2 : Int32) F_position F_tokenAt F_token F_digits F_number F_faultAt F_readMany A_read) ∧ (¬ r1 = (0 : Int32) → (wX12_isRead p0 F_bytes F_position F_tokenAt F_token F_digits F_number F_faultAt F_readMany A_states A_markMany A_text A_read (fun r3 u4 u5 u6 u7 u8 u9 u10 u11 => ((r3 = (0 : Int32) → K u9 u4 u5 u6 u7 u8 u9 u10 u11) ∧ (¬ r3 = (0 : Int32) → K (-1 : Int32) u4 u5 u6 u7 u8 u9 u10 u11))))))))
abbrev rmX12_fault : Room := { frames := 5, cells := 0, slots := 0, locals := 109 }
theorem nd_X12_fault : yX12_fault.cls = RX12 ∧ yX12_fault.cls ≠ "java/lang/invoke/MethodHandle" ∧ yX12_fault.cls ≠ "java/lang/invoke/VarHandle" ∧ (parseMethodDescriptor yX12_fault.desc).map (fun d => d.parameters.length) = some 1 := by decide +kernel
theorem hkX12_fault_X12 : ∀ w ∈ u_ws RX12 TX12 51, w ∈ wsX12_fault := fun w h => List.mem_cons_of_mem _ (inlX12 w h)
theorem hfX12_fault_153 : (Cond.fieldLink RX12 153 "NestReadersModel" "faultAt" "I") ∈ wsX12_fault := List.mem_cons_of_mem _ m17_23
set_option maxHeartbeats 4000000 in
set_option maxRecDepth 100000 in
theorem c_X12_fault (l : Launch) (G : va_G) (cI cJ cZ : ClassId) (q_t q_t_states q_t_markMany q_t_takes q_t_puts q_t_goes q_t_closes q_t_text q_t_read q_t_row q_t_partner q_t_some q_t_stackCome q_t_stackSince q_t_stackLetter q_t_runs q_t_ways q_t_keptRuns q_t_keptWays q_t_rel q_t_whole q_t_wholeLong q_t_nodeCome q_t_nodeSince q_t_nodeDeep q_t_nodeLong q_t_wholeMany q_t_blockTo q_t_nodeMany q_t_listCome q_t_listSince q_t_nextCome q_t_nextSince : Nat) (sz : Nat) (F_bytes : Int32) (F_position : Int32) (F_tokenAt : Int32) (F_token : Int64) (F_digits : Int32) (F_number : Int32) (F_faultAt : Int32) (F_readMany : Int32) (F_size : Int32) (F_stacked : Int32) (F_come : Int32) (F_since : Int32) (F_known : Int32) (F_isSpent : Int32) (F_wholes : Int32) (F_nodes : Int32) (F_places : Int32) (F_listed : Int32) (F_nexts : Int32) (A_states : Nat → Int32) (A_markMany : Nat → Int32) (A_text : Nat → Int32) (A_read : Nat → Int32) (p0 : Int32) {K : Int32 → Int32 → Int32 → Int64 → Int32 → Int32 → Int32 → Int32 → (Nat → Int32) → Prop} (hw : wX12_fault p0 F_bytes F_position F_tokenAt F_token F_digits F_number F_faultAt F_readMany A_states A_markMany A_text A_read K) : Met l yX12_fault wsX12_fault rmX12_fault (ms_Pz G (ms_T cI cJ cZ) [(q_t, .inr (12, [.ref q_t_states, .ref q_t_markMany, .ref q_t_takes, .ref q_t_puts, .ref q_t_goes, .ref q_t_closes, .int F_bytes, .ref q_t_text, .int F_position, .int F_tokenAt, .long F_token, .int F_digits, .int F_number, .int F_faultAt, .int F_readMany, .ref q_t_read, .int F_size, .ref q_t_row, .ref q_t_partner, .ref q_t_some, .ref q_t_stackCome, .ref q_t_stackSince, .ref q_t_stackLetter, .int F_stacked, .int F_come, .int F_since, .ref q_t_runs, .ref q_t_ways, .ref q_t_keptRuns, .ref q_t_keptWays, .ref q_t_rel, .int F_known, .int F_isSpent, .ref q_t_whole, .ref q_t_wholeLong, .int F_wholes, .ref q_t_nodeCome, .ref q_t_nodeSince, .ref q_t_nodeDeep, .ref q_t_nodeLong, .int F_nodes, .int F_places, .ref q_t_wholeMany, .ref q_t_blockTo, .ref q_t_nodeMany, .ref q_t_listCome, .ref q_t_listSince, .int F_listed, .ref q_t_nextCome, .ref q_t_nextSince, .int F_nexts])), (q_t_states, .inl (cI, 2, .inl A_states)), (q_t_markMany, .inl (cI, 2, .inl A_markMany)), (q_t_text, .inl (cI, 160, .inl A_text)), (q_t_read, .inl (cI, 64, .inl A_read))] sz [.ref q_t, .int p0]) (ms_Wi G (ms_T cI cJ cZ) (fun (r : Int32) (u : Int32 × Int32 × Int64 × Int32 × Int32 × Int32 × Int32 × (Nat → Int32)) => K r u.1 u.2.1 u.2.2.1 u.2.2.2.1 u.2.2.2.2.1 u.2.2.2.2.2.1 u.2.2.2.2.2.2.1 u.2.2.2.2.2.2.2) (fun u : Int32 × Int32 × Int64 × Int32 × Int32 × Int32 × Int32 × (Nat → Int32) => [(q_t, .inr (12, [.ref q_t_states, .ref q_t_markMany, .ref q_t_takes, .ref q_t_puts, .ref q_t_goes, .ref q_t_closes, .int F_bytes, .ref q_t_text, .int u.1, .int u.2.1, .long u.2.2.1, .int u.2.2.2.1, .int u.2.2.2.2.1, .int u.2.2.2.2.2.1, .int u.2.2.2.2.2.2.1, .ref q_t_read, .int F_size, .ref q_t_row, .ref q_t_partner, .ref q_t_some, .ref q_t_stackCome, .ref q_t_stackSince, .ref q_t_stackLetter, .int F_stacked, .int F_come, .int F_since, .ref q_t_runs, .ref q_t_ways, .ref q_t_keptRuns, .ref q_t_keptWays, .ref q_t_rel, .int F_known, .int F_isSpent, .ref q_t_whole, .ref q_t_wholeLong, .int F_wholes, .ref q_t_nodeCome, .ref q_t_nodeSince, .ref q_t_nodeDeep, .ref q_t_nodeLong, .int F_nodes, .int F_places, .ref q_t_wholeMany, .ref q_t_blockTo, .ref q_t_nodeMany, .ref q_t_listCome, .ref q_t_listSince, .int F_listed, .ref q_t_nextCome, .ref q_t_nextSince, .int F_nexts])), (q_t_states, .inl (cI, 2, .inl A_states)), (q_t_markMany, .inl (cI, 2, .inl A_markMany)), (q_t_text, .inl (cI, 160, .inl A_text)), (q_t_read, .inl (cI, 64, .inl u.2.2.2.2.2.2.2))]) (va_A [(q_t, .inr (12, [.ref q_t_states, .ref q_t_markMany, .ref q_t_takes, .ref q_t_puts, .ref q_t_goes, .ref q_t_closes, .int F_bytes, .ref q_t_text, .int F_position, .int F_tokenAt, .long F_token, .int F_digits, .int F_number, .int F_faultAt, .int F_readMany, .ref q_t_read, .int F_size, .ref q_t_row, .ref q_t_partner, .ref q_t_some, .ref q_t_stackCome, .ref q_t_stackSince, .ref q_t_stackLetter, .int F_stacked, .int F_come, .int F_since, .ref q_t_runs, .ref q_t_ways, .ref q_t_keptRuns, .ref q_t_keptWays, .ref q_t_rel, .int F_known, .int F_isSpent, .ref q_t_whole, .ref q_t_wholeLong, .int F_wholes, .ref q_t_nodeCome, .ref q_t_nodeSince, .ref q_t_nodeDeep, .ref q_t_nodeLong, .int F_nodes, .int F_places, .ref q_t_wholeMany, .ref q_t_blockTo, .ref q_t_nodeMany, .ref q_t_listCome, .ref q_t_listSince, .int F_listed, .ref q_t_nextCome, .ref q_t_nextSince, .int F_nexts])), (q_t_states, .inl (cI, 2, .inl A_states)), (q_t_markMany, .inl (cI, 2, .inl A_markMany)), (q_t_text, .inl (cI, 160, .inl A_text)), (q_t_read, .inl (cI, 64, .inl A_read))] sz)) 0 0 (va_A [(q_t, .inr (12, [.ref q_t_states, .ref q_t_markMany, .ref q_t_takes, .ref q_t_puts, .ref q_t_goes, .ref q_t_closes, .int F_bytes, .ref q_t_text, .int F_position, .int F_tokenAt, .long F_token, .int F_digits, .int F_number, .int F_faultAt, .int F_readMany, .ref q_t_read, .int F_size, .ref q_t_row, .ref q_t_partner, .ref q_t_some, .ref q_t_stackCome, .ref q_t_stackSince, .ref q_t_stackLetter, .int F_stacked, .int F_come, .int F_since, .ref q_t_runs, .ref q_t_ways, .ref q_t_keptRuns, .ref q_t_keptWays, .ref q_t_rel, .int F_known, .int F_isSpent, .ref q_t_whole, .ref q_t_wholeLong, .int F_wholes, .ref q_t_nodeCome, .ref q_t_nodeSince, .ref q_t_nodeDeep, .ref q_t_nodeLong, .int F_nodes, .int F_places, .ref q_t_wholeMany, .ref q_t_blockTo, .ref q_t_nodeMany, .ref q_t_listCome, .ref q_t_listSince, .int F_listed, .ref q_t_nextCome, .ref q_t_nextSince, .int F_nexts])), (q_t_states, .inl (cI, 2, .inl A_states)), (q_t_markMany, .inl (cI, 2, .inl A_markMany)), (q_t_text, .inl (cI, 160, .inl A_text)), (q_t_read, .inl (cI, 64, .inl A_read))] sz) := by
  refine ms_ti (cc := cX12_fault) (maxL := 2) (ty := .int) (by decide) rfl (Nat.le_of_ble_eq_true rfl) ?_
  intro p e s m args below meth c Q A hx hb hml hown hts hK hP hD hS hA hRet ls hl
  have hl : lv_has ls 2 [(0, .ref q_t), (1, .int p0)] := hl
  have hown : s.vm.findClass RX12 = some m.cls := hown
  refine lv_iload_n hx hb dX12_fault_0 rfl (lv_at hl 1 rfl) ?_
  refine ms_cSi ⟨hx, hb, hml, hown, hts⟩ hK hP hD (c_X12_isReader l G cI cJ cZ p0 hw) gX12_fault_X12_isReader rfl nd_X12_isReader ⟨rfl, rfl⟩ rfl ⟨Nat.le_of_ble_eq_true rfl, Nat.le_of_ble_eq_true rfl⟩ hl.1 (rest := []) rfl (Nat.le_of_ble_eq_true rfl)  [] rfl rfl dX12_fault_1 (fun r1 hw => ?_)
  have zzr1 := hw.1
  have hw := hw.2
  refine lv_if_ne (tgt := 10) hx hb dX12_fault_4 (by decide) (fun c2 => ?_) (fun c2 => ?_)
  · have hw := hw.2 c2
    refine lv_aload_n hx hb dX12_fault_10 rfl (lv_at hl 0 rfl) ?_
    refine lv_iload_n hx hb dX12_fault_11 rfl (lv_at hl 1 rfl) ?_
    refine ms_mVi (wr := []) ⟨hx, hb, hml, hown, hts⟩ hK hP hD (c_X12_isRead l G cI cJ cZ q_t q_t_states q_t_markMany q_t_takes q_t_puts q_t_goes q_t_closes q_t_text q_t_read q_t_row q_t_partner q_t_some q_t_stackCome q_t_stackSince q_t_stackLetter q_t_runs q_t_ways q_t_keptRuns q_t_keptWays q_t_rel q_t_whole q_t_wholeLong q_t_nodeCome q_t_nodeSince q_t_nodeDeep q_t_nodeLong q_t_wholeMany q_t_blockTo q_t_nodeMany q_t_listCome q_t_listSince q_t_nextCome q_t_nextSince s.heap.size F_bytes F_position F_tokenAt F_token F_digits F_number F_faultAt F_readMany F_size F_stacked F_come F_since F_known F_isSpent F_wholes F_nodes F_places F_listed F_nexts A_states A_markMany A_text A_read p0 hw) gX12_fault_X12_isRead rfl nd_X12_isRead (ci := 12) rfl rfl rfl ⟨rfl, rfl⟩ rfl ⟨Nat.le_of_ble_eq_true rfl, Nat.le_of_ble_eq_true rfl⟩ hl.1 (rest := []) rfl (Nat.le_of_ble_eq_true rfl)  hS hA [0, 1, 2, 3, 4] [] rfl rfl rfl (by decide) rfl dX12_fault_12 (fun r3 u H locs hw hP hD hS => ?_)
    obtain ⟨u4, u5, u6, u7, u8, u9, u10, u11⟩ := u
    have zzr3 := hw.1
    have hw := hw.2
    obtain ⟨hP, hD⟩ : ms_PD G A [(q_t, .inr (12, [.ref q_t_states, .ref q_t_markMany, .ref q_t_takes, .ref q_t_puts, .ref q_t_goes, .ref q_t_closes, .int F_bytes, .ref q_t_text, .int u4, .int u5, .long u6, .int u7, .int u8, .int u9, .int u10, .ref q_t_read, .int F_size, .ref q_t_row, .ref q_t_partner, .ref q_t_some, .ref q_t_stackCome, .ref q_t_stackSince, .ref q_t_stackLetter, .int F_stacked, .int F_come, .int F_since, .ref q_t_runs, .ref q_t_ways, .ref q_t_keptRuns, .ref q_t_keptWays, .ref q_t_rel, .int F_known, .int F_isSpent, .ref q_t_whole, .ref q_t_wholeLong, .int F_wholes, .ref q_t_nodeCome, .ref q_t_nodeSince, .ref q_t_nodeDeep, .ref q_t_nodeLong, .int F_nodes, .int F_places, .ref q_t_wholeMany, .ref q_t_blockTo, .ref q_t_nodeMany, .ref q_t_listCome, .ref q_t_listSince, .int F_listed, .ref q_t_nextCome, .ref q_t_nextSince, .int F_nexts])), (q_t_states, .inl (cI, 2, .inl A_states)), (q_t_markMany, .inl (cI, 2, .inl A_markMany)), (q_t_text, .inl (cI, 160, .inl A_text)), (q_t_read, .inl (cI, 64, .inl u11))] H := ms_PDsub hP hD [0, 1, 2, 3, 4] (by decide +kernel) rfl
    refine lv_if_eq (tgt := 22) hx hb dX12_fault_15 (by decide) (fun c12 => ?_) (fun c12 => ?_)
    · have hw := hw.1 c12
      refine lv_aload_n hx hb dX12_fault_22 rfl (lv_at hl 0 rfl) ?_
      refine va_get (D := G) (ci := 12) (v := .int u9) (C := RX12) (T := TX12) (N := 51) hx hb hts hkX12_fault_X12 hown hK hP 0 rfl rfl 13 (by decide) (hts (.fieldLink RX12 153 "NestReadersModel" "faultAt" "I") hfX12_fault_153) (fun _ h9 => h9) rfl dX12_fault_23 ?_
      exact hRet u9 ⟨u4, u5, u6, u7, u8, u9, u10, u11⟩ H locs _ _ hw (vp_nar_int _) hP hD hS dX12_fault_26
    · have hw := hw.2 c12
      refine lv_iconst (v := (-1)) hx hb dX12_fault_18 (by decide) ?_
      refine lv_goto (tgt := 26) hx hb dX12_fault_19 (by decide) ?_
      exact hRet (-1 : Int32) ⟨u4, u5, u6, u7, u8, u9, u10, u11⟩ H locs _ _ hw (vp_nar_int _) hP hD hS dX12_fault_26
  · have hw := hw.1 c2
    refine lv_bipush (v := (-2)) hx hb dX12_fault_7 (by decide) ?_
    exact hRet (-2 : Int32) ⟨F_position, F_tokenAt, F_token, F_digits, F_number, F_faultAt, F_readMany, A_read⟩ s.heap [] _ _ hw (vp_nar_int _) hP hD hS dX12_fault_9
def wX12_bits_L4 (p0 : Int32) (E4 : Int32 → Int32 → Prop) (i4_1 : Int32) (i4_2 : Int32) : Prop :=
  ∀ P4 : Int32 → Int32 → Prop, (∀ (i4_1 : Int32) (i4_2 : Int32), (((3 : Int32) ≤ i4_2 → E4 i4_1 i4_2) ∧ (¬ (3 : Int32) ≤ i4_2 → (∀ x2 : Int32, x2 = (i4_1 + ((p0 >>> (i4_2 &&& 31)) &&& (1 : Int32))) → (∀ x3 : Int32, x3 = i4_2 + (1 : Int32) → P4 x2 x3)))) → P4 i4_1 i4_2) → P4 i4_1 i4_2
def wX12_bits (p0 : Int32) (K : Int32 → Prop) : Prop :=
  (wX12_bits_L4 p0 (fun i4_1 i4_2 => K i4_1) (0 : Int32) (0 : Int32))
abbrev rmX12_bits : Room := { frames := 0, cells := 0, slots := 0, locals := 0 }
theorem nd_X12_bits : yX12_bits.cls ≠ "java/lang/invoke/MethodHandle" ∧ yX12_bits.cls ≠ "java/lang/invoke/VarHandle" ∧ (parseMethodDescriptor yX12_bits.desc).map (fun d => d.parameters.length) = some 1 := by decide +kernel
set_option maxHeartbeats 4000000 in
set_option maxRecDepth 100000 in
theorem c_X12_bits (l : Launch) (G : va_G) (cI cJ cZ : ClassId) (p0 : Int32) {K : Int32 → Prop} (hw : wX12_bits p0 K) : Met l yX12_bits wsX12_bits rmX12_bits (ms_P G (ms_T cI cJ cZ) [] [.int p0]) (ms_Qi K) 0 0 ms_N := by
  refine ms_si (cc := cX12_bits) (maxL := 3) (ty := .int) (by decide) rfl (Nat.le_of_ble_eq_true rfl) ?_
  intro p e s m args below meth c Q hx hb hml hown hts hK hP hD hRet ls hl
  have hl : lv_has ls 3 [(0, .int p0)] := hl
  have hown : s.vm.findClass RX12 = some m.cls := hown
  refine lv_iconst (v := 0) hx hb dX12_bits_0 (by decide) ?_
  refine lv_istore_n (lv' := [(1, .int (0 : Int32)), (0, .int p0)]) hx hb dX12_bits_1 rfl hl (by decide) rfl (fun ls hl => ?_)
  refine lv_iconst (v := 0) hx hb dX12_bits_2 (by decide) ?_
  refine lv_istore_n (lv' := [(2, .int (0 : Int32)), (1, .int (0 : Int32)), (0, .int p0)]) hx hb dX12_bits_3 rfl hl (by decide) rfl (fun ls hl => ?_)
  refine hw (fun i4_1 i4_2 => ∀ ls : Array Slot, lv_has ls 3 [(0, .int p0), (1, .int i4_1), (2, .int i4_2)] → W p l e rmX12_bits s m args below meth c s.heap [] 0 0 Q (F0 m 4 ls [])) (fun i4_1 i4_2 hw ls hl => ?_) ls (lv_sub hl [2, 1, 0] rfl)
  refine lv_iload_n hx hb dX12_bits_4 rfl (lv_at hl 2 rfl) ?_
  refine lv_iconst (v := 3) hx hb dX12_bits_5 (by decide) ?_
  refine lv_icmp_ge (tgt := 23) hx hb dX12_bits_6 (by decide) (fun c1 => ?_) (fun c1 => ?_)
  · have hw := hw.1 c1
    refine lv_iload_n hx hb dX12_bits_23 rfl (lv_at hl 1 rfl) ?_
    exact hRet i4_1 _ _ hw (vp_nar_int _) dX12_bits_24
  · have hw := hw.2 c1
    refine lv_iload_n hx hb dX12_bits_9 rfl (lv_at hl 1 rfl) ?_
    refine lv_iload_n hx hb dX12_bits_10 rfl (lv_at hl 0 rfl) ?_
    refine lv_iload_n hx hb dX12_bits_11 rfl (lv_at hl 2 rfl) ?_
    refine lv_ishr hx hb dX12_bits_12 ?_
    refine lv_iconst (v := 1) hx hb dX12_bits_13 (by decide) ?_
    refine lv_iand hx hb dX12_bits_14 ?_
    refine lv_iadd hx hb dX12_bits_15 ?_
    refine lv_topi (fun x2 ex2 => ?_)
    have hw := hw x2 ex2
    refine lv_istore_n (lv' := [(1, .int x2), (0, .int p0), (2, .int i4_2)]) hx hb dX12_bits_16 rfl hl (by decide) rfl (fun ls hl => ?_)
    obtain ⟨x3, ex3⟩ : ∃ y : Int32, y = i4_2 + (1 : Int32) := ⟨_, rfl⟩
    have hw := hw x3 ex3
    refine lv_iinc (v := x3) (lv' := [(2, .int x3), (1, .int x2), (0, .int p0)]) hx hb dX12_bits_17 hl (k := 2) rfl (by rw [ex3]; rfl) (by decide) rfl (fun ls hl => ?_)
    refine lv_goto (tgt := 4) hx hb dX12_bits_20 (by decide) ?_
    exact hw ls (lv_sub hl [2, 1, 0] rfl)
def wX12_movesOf_L66 (p0 : Int32) (A_closes : Nat → Int32) (E66 : Int32 → Int32 → Prop) (i66_2 : Int32) (i66_3 : Int32) : Prop :=
  ∀ P66 : Int32 → Int32 → Prop, (∀ (i66_2 : Int32) (i66_3 : Int32), (((18 : Int32) ≤ i66_3 → E66 i66_2 i66_3) ∧ (¬ (18 : Int32) ≤ i66_3 → (vp_in (((18 : Int32) * p0) + i66_3) 36 ∧ (wX12_bits (A_closes (((18 : Int32) * p0) + i66_3).toNatClampNeg) (fun r4 => (∀ x5 : Int32, x5 = (i66_2 + r4) → (∀ x6 : Int32, x6 = i66_3 + (1 : Int32) → P66 x5 x6))))))) → P66 i66_2 i66_3) → P66 i66_2 i66_3
def wX12_movesOf_L35 (p0 : Int32) (A_goes : Nat → Int32) (E35 : Int32 → Int32 → Prop) (i35_2 : Int32) (i35_3 : Int32) : Prop :=
  ∀ P35 : Int32 → Int32 → Prop, (∀ (i35_2 : Int32) (i35_3 : Int32), (((6 : Int32) ≤ i35_3 → E35 i35_2 i35_3) ∧ (¬ (6 : Int32) ≤ i35_3 → (vp_in (((6 : Int32) * p0) + i35_3) 12 ∧ (wX12_bits (A_goes (((6 : Int32) * p0) + i35_3).toNatClampNeg) (fun r7 => (∀ x8 : Int32, x8 = (i35_2 + r7) → (∀ x9 : Int32, x9 = i35_3 + (1 : Int32) → P35 x8 x9))))))) → P35 i35_2 i35_3) → P35 i35_2 i35_3
def wX12_movesOf_L4 (p0 : Int32) (A_puts : Nat → Int32) (E4 : Int32 → Int32 → Prop) (i4_2 : Int32) (i4_3 : Int32) : Prop :=
  ∀ P4 : Int32 → Int32 → Prop, (∀ (i4_2 : Int32) (i4_3 : Int32), (((12 : Int32) ≤ i4_3 → E4 i4_2 i4_3) ∧ (¬ (12 : Int32) ≤ i4_3 → (vp_in (((12 : Int32) * p0) + i4_3) 24 ∧ (wX12_bits (A_puts (((12 : Int32) * p0) + i4_3).toNatClampNeg) (fun r10 => (∀ x11 : Int32, x11 = (i4_2 + r10) → (∀ x12 : Int32, x12 = i4_3 + (1 : Int32) → P4 x11 x12))))))) → P4 i4_2 i4_3) → P4 i4_2 i4_3
def wX12_movesOf (p0 : Int32) (A_puts : Nat → Int32) (A_goes : Nat → Int32) (A_closes : Nat → Int32) (K : Int32 → Prop) : Prop :=
  (wX12_movesOf_L4 p0 A_puts (fun i4_2 i4_3 => (wX12_movesOf_L35 p0 A_goes (fun i35_2 i35_3 => (wX12_movesOf_L66 p0 A_closes (fun i66_2 i66_3 => K i66_2) i35_2 (0 : Int32))) i4_2 (0 : Int32))) (0 : Int32) (0 : Int32))
abbrev rmX12_movesOf : Room := { frames := 1, cells := 0, slots := 0, locals := 22 }
theorem nd_X12_movesOf : yX12_movesOf.cls = RX12 ∧ yX12_movesOf.cls ≠ "java/lang/invoke/MethodHandle" ∧ yX12_movesOf.cls ≠ "java/lang/invoke/VarHandle" ∧ (parseMethodDescriptor yX12_movesOf.desc).map (fun d => d.parameters.length) = some 1 := by decide +kernel
theorem hkX12_movesOf_X12 : ∀ w ∈ u_ws RX12 TX12 51, w ∈ wsX12_movesOf := fun w h => List.mem_cons_of_mem _ (inlX12 w h)
theorem hfX12_movesOf_25 : (Cond.fieldLink RX12 25 "NestReadersModel" "closes" "[I") ∈ wsX12_movesOf := List.mem_cons_of_mem _ m9_1
theorem hfX12_movesOf_22 : (Cond.fieldLink RX12 22 "NestReadersModel" "goes" "[I") ∈ wsX12_movesOf := List.mem_cons_of_mem _ m9_0
theorem hfX12_movesOf_19 : (Cond.fieldLink RX12 19 "NestReadersModel" "puts" "[I") ∈ wsX12_movesOf := List.mem_cons_of_mem _ m8_23
set_option maxHeartbeats 4000000 in
set_option maxRecDepth 100000 in
theorem c_X12_movesOf (l : Launch) (G : va_G) (cI cJ cZ : ClassId) (q_t q_t_states q_t_markMany q_t_takes q_t_puts q_t_goes q_t_closes q_t_text q_t_read q_t_row q_t_partner q_t_some q_t_stackCome q_t_stackSince q_t_stackLetter q_t_runs q_t_ways q_t_keptRuns q_t_keptWays q_t_rel q_t_whole q_t_wholeLong q_t_nodeCome q_t_nodeSince q_t_nodeDeep q_t_nodeLong q_t_wholeMany q_t_blockTo q_t_nodeMany q_t_listCome q_t_listSince q_t_nextCome q_t_nextSince : Nat) (F_bytes : Int32) (F_position : Int32) (F_tokenAt : Int32) (F_token : Int64) (F_digits : Int32) (F_number : Int32) (F_faultAt : Int32) (F_readMany : Int32) (F_size : Int32) (F_stacked : Int32) (F_come : Int32) (F_since : Int32) (F_known : Int32) (F_isSpent : Int32) (F_wholes : Int32) (F_nodes : Int32) (F_places : Int32) (F_listed : Int32) (F_nexts : Int32) (A_puts : Nat → Int32) (A_goes : Nat → Int32) (A_closes : Nat → Int32) (p0 : Int32) {K : Int32 → Prop} (hw : wX12_movesOf p0 A_puts A_goes A_closes K) : Met l yX12_movesOf wsX12_movesOf rmX12_movesOf (ms_P G (ms_T cI cJ cZ) [(q_t, .inr (12, [.ref q_t_states, .ref q_t_markMany, .ref q_t_takes, .ref q_t_puts, .ref q_t_goes, .ref q_t_closes, .int F_bytes, .ref q_t_text, .int F_position, .int F_tokenAt, .long F_token, .int F_digits, .int F_number, .int F_faultAt, .int F_readMany, .ref q_t_read, .int F_size, .ref q_t_row, .ref q_t_partner, .ref q_t_some, .ref q_t_stackCome, .ref q_t_stackSince, .ref q_t_stackLetter, .int F_stacked, .int F_come, .int F_since, .ref q_t_runs, .ref q_t_ways, .ref q_t_keptRuns, .ref q_t_keptWays, .ref q_t_rel, .int F_known, .int F_isSpent, .ref q_t_whole, .ref q_t_wholeLong, .int F_wholes, .ref q_t_nodeCome, .ref q_t_nodeSince, .ref q_t_nodeDeep, .ref q_t_nodeLong, .int F_nodes, .int F_places, .ref q_t_wholeMany, .ref q_t_blockTo, .ref q_t_nodeMany, .ref q_t_listCome, .ref q_t_listSince, .int F_listed, .ref q_t_nextCome, .ref q_t_nextSince, .int F_nexts])), (q_t_puts, .inl (cI, 24, .inl A_puts)), (q_t_goes, .inl (cI, 12, .inl A_goes)), (q_t_closes, .inl (cI, 36, .inl A_closes))] [.ref q_t, .int p0]) (ms_Qi K) 0 0 ms_N := by
  refine ms_si (cc := cX12_movesOf) (maxL := 4) (ty := .int) (by decide) rfl (Nat.le_of_ble_eq_true rfl) ?_
  intro p e s m args below meth c Q hx hb hml hown hts hK hP hD hRet ls hl
  have hl : lv_has ls 4 [(0, .ref q_t), (1, .int p0)] := hl
  have hown : s.vm.findClass RX12 = some m.cls := hown
  refine lv_iconst (v := 0) hx hb dX12_movesOf_0 (by decide) ?_
  refine lv_istore_n (lv' := [(2, .int (0 : Int32)), (0, .ref q_t), (1, .int p0)]) hx hb dX12_movesOf_1 rfl hl (by decide) rfl (fun ls hl => ?_)
  refine lv_iconst (v := 0) hx hb dX12_movesOf_2 (by decide) ?_
  refine lv_istore_n (lv' := [(3, .int (0 : Int32)), (2, .int (0 : Int32)), (0, .ref q_t), (1, .int p0)]) hx hb dX12_movesOf_3 rfl hl (by decide) rfl (fun ls hl => ?_)
  refine hw (fun i4_2 i4_3 => ∀ ls : Array Slot, lv_has ls 4 [(0, .ref q_t), (1, .int p0), (2, .int i4_2), (3, .int i4_3)] → W p l e rmX12_movesOf s m args below meth c s.heap [] 0 0 Q (F0 m 4 ls [])) (fun i4_2 i4_3 hw ls hl => ?_) ls (lv_sub hl [2, 3, 1, 0] rfl)
  refine lv_iload_n hx hb dX12_movesOf_4 rfl (lv_at hl 3 rfl) ?_
  refine lv_bipush (v := (12)) hx hb dX12_movesOf_5 (by decide) ?_
  refine lv_icmp_ge (tgt := 33) hx hb dX12_movesOf_7 (by decide) (fun c1 => ?_) (fun c1 => ?_)
  · have hw := hw.1 c1
    refine lv_iconst (v := 0) hx hb dX12_movesOf_33 (by decide) ?_
    refine lv_istore_n (lv' := [(3, .int (0 : Int32)), (0, .ref q_t), (1, .int p0), (2, .int i4_2)]) hx hb dX12_movesOf_34 rfl hl (by decide) rfl (fun ls hl => ?_)
    refine hw (fun i35_2 i35_3 => ∀ ls : Array Slot, lv_has ls 4 [(0, .ref q_t), (1, .int p0), (2, .int i35_2), (3, .int i35_3)] → W p l e rmX12_movesOf s m args below meth c s.heap [] 0 0 Q (F0 m 35 ls [])) (fun i35_2 i35_3 hw ls hl => ?_) ls (lv_sub hl [1, 2, 3, 0] rfl)
    refine lv_iload_n hx hb dX12_movesOf_35 rfl (lv_at hl 3 rfl) ?_
    refine lv_bipush (v := (6)) hx hb dX12_movesOf_36 (by decide) ?_
    refine lv_icmp_ge (tgt := 64) hx hb dX12_movesOf_38 (by decide) (fun c2 => ?_) (fun c2 => ?_)
    · have hw := hw.1 c2
      refine lv_iconst (v := 0) hx hb dX12_movesOf_64 (by decide) ?_
      refine lv_istore_n (lv' := [(3, .int (0 : Int32)), (0, .ref q_t), (1, .int p0), (2, .int i35_2)]) hx hb dX12_movesOf_65 rfl hl (by decide) rfl (fun ls hl => ?_)
      refine hw (fun i66_2 i66_3 => ∀ ls : Array Slot, lv_has ls 4 [(0, .ref q_t), (1, .int p0), (2, .int i66_2), (3, .int i66_3)] → W p l e rmX12_movesOf s m args below meth c s.heap [] 0 0 Q (F0 m 66 ls [])) (fun i66_2 i66_3 hw ls hl => ?_) ls (lv_sub hl [1, 2, 3, 0] rfl)
      refine lv_iload_n hx hb dX12_movesOf_66 rfl (lv_at hl 3 rfl) ?_
      refine lv_bipush (v := (18)) hx hb dX12_movesOf_67 (by decide) ?_
      refine lv_icmp_ge (tgt := 95) hx hb dX12_movesOf_69 (by decide) (fun c3 => ?_) (fun c3 => ?_)
      · have hw := hw.1 c3
        refine lv_iload_n hx hb dX12_movesOf_95 rfl (lv_at hl 2 rfl) ?_
        exact hRet i66_2 _ _ hw (vp_nar_int _) dX12_movesOf_96
      · have hw := hw.2 c3
        refine lv_iload_n hx hb dX12_movesOf_72 rfl (lv_at hl 2 rfl) ?_
        refine lv_aload_n hx hb dX12_movesOf_73 rfl (lv_at hl 0 rfl) ?_
        refine va_get (D := G) (ci := 12) (v := .ref q_t_closes) (C := RX12) (T := TX12) (N := 51) hx hb hts hkX12_movesOf_X12 hown hK hP 0 rfl rfl 5 (by decide) (hts (.fieldLink RX12 25 "NestReadersModel" "closes" "[I") hfX12_movesOf_25) (fun _ h9 => h9) rfl dX12_movesOf_74 ?_
        refine lv_bipush (v := (18)) hx hb dX12_movesOf_77 (by decide) ?_
        refine lv_iload_n hx hb dX12_movesOf_79 rfl (lv_at hl 1 rfl) ?_
        refine lv_imul hx hb dX12_movesOf_80 ?_
        refine lv_iload_n hx hb dX12_movesOf_81 rfl (lv_at hl 3 rfl) ?_
        refine lv_iadd hx hb dX12_movesOf_82 ?_
        refine va_iald (D := G) hx hb hK hP 3 0 rfl rfl hw.1 dX12_movesOf_83 ?_
        have hw := hw.2
        refine ms_cSi ⟨hx, hb, hml, hown, hts⟩ hK hP hD (c_X12_bits l G cI cJ cZ (A_closes (((18 : Int32) * p0) + i66_3).toNatClampNeg) hw) gX12_movesOf_X12_bits rfl nd_X12_bits ⟨rfl, rfl⟩ rfl ⟨Nat.le_of_ble_eq_true rfl, Nat.le_of_ble_eq_true rfl⟩ hl.1 (rest := [.int i66_2]) rfl (Nat.le_of_ble_eq_true rfl)  [] rfl rfl dX12_movesOf_84 (fun r4 hw => ?_)
        refine lv_iadd hx hb dX12_movesOf_87 ?_
        refine lv_topi (fun x5 ex5 => ?_)
        have hw := hw x5 ex5
        refine lv_istore_n (lv' := [(2, .int x5), (0, .ref q_t), (1, .int p0), (3, .int i66_3)]) hx hb dX12_movesOf_88 rfl hl (by decide) rfl (fun ls hl => ?_)
        obtain ⟨x6, ex6⟩ : ∃ y : Int32, y = i66_3 + (1 : Int32) := ⟨_, rfl⟩
        have hw := hw x6 ex6
        refine lv_iinc (v := x6) (lv' := [(3, .int x6), (2, .int x5), (0, .ref q_t), (1, .int p0)]) hx hb dX12_movesOf_89 hl (k := 3) rfl (by rw [ex6]; rfl) (by decide) rfl (fun ls hl => ?_)
        refine lv_goto (tgt := 66) hx hb dX12_movesOf_92 (by decide) ?_
        exact hw ls (lv_sub hl [2, 3, 1, 0] rfl)
    · have hw := hw.2 c2
      refine lv_iload_n hx hb dX12_movesOf_41 rfl (lv_at hl 2 rfl) ?_
      refine lv_aload_n hx hb dX12_movesOf_42 rfl (lv_at hl 0 rfl) ?_
      refine va_get (D := G) (ci := 12) (v := .ref q_t_goes) (C := RX12) (T := TX12) (N := 51) hx hb hts hkX12_movesOf_X12 hown hK hP 0 rfl rfl 4 (by decide) (hts (.fieldLink RX12 22 "NestReadersModel" "goes" "[I") hfX12_movesOf_22) (fun _ h9 => h9) rfl dX12_movesOf_43 ?_
      refine lv_bipush (v := (6)) hx hb dX12_movesOf_46 (by decide) ?_
      refine lv_iload_n hx hb dX12_movesOf_48 rfl (lv_at hl 1 rfl) ?_
      refine lv_imul hx hb dX12_movesOf_49 ?_
      refine lv_iload_n hx hb dX12_movesOf_50 rfl (lv_at hl 3 rfl) ?_
      refine lv_iadd hx hb dX12_movesOf_51 ?_
      refine va_iald (D := G) hx hb hK hP 2 0 rfl rfl hw.1 dX12_movesOf_52 ?_
      have hw := hw.2
      refine ms_cSi ⟨hx, hb, hml, hown, hts⟩ hK hP hD (c_X12_bits l G cI cJ cZ (A_goes (((6 : Int32) * p0) + i35_3).toNatClampNeg) hw) gX12_movesOf_X12_bits rfl nd_X12_bits ⟨rfl, rfl⟩ rfl ⟨Nat.le_of_ble_eq_true rfl, Nat.le_of_ble_eq_true rfl⟩ hl.1 (rest := [.int i35_2]) rfl (Nat.le_of_ble_eq_true rfl)  [] rfl rfl dX12_movesOf_53 (fun r7 hw => ?_)
      refine lv_iadd hx hb dX12_movesOf_56 ?_
      refine lv_topi (fun x8 ex8 => ?_)
      have hw := hw x8 ex8
      refine lv_istore_n (lv' := [(2, .int x8), (0, .ref q_t), (1, .int p0), (3, .int i35_3)]) hx hb dX12_movesOf_57 rfl hl (by decide) rfl (fun ls hl => ?_)
      obtain ⟨x9, ex9⟩ : ∃ y : Int32, y = i35_3 + (1 : Int32) := ⟨_, rfl⟩
      have hw := hw x9 ex9
      refine lv_iinc (v := x9) (lv' := [(3, .int x9), (2, .int x8), (0, .ref q_t), (1, .int p0)]) hx hb dX12_movesOf_58 hl (k := 3) rfl (by rw [ex9]; rfl) (by decide) rfl (fun ls hl => ?_)
      refine lv_goto (tgt := 35) hx hb dX12_movesOf_61 (by decide) ?_
      exact hw ls (lv_sub hl [2, 3, 1, 0] rfl)
  · have hw := hw.2 c1
    refine lv_iload_n hx hb dX12_movesOf_10 rfl (lv_at hl 2 rfl) ?_
    refine lv_aload_n hx hb dX12_movesOf_11 rfl (lv_at hl 0 rfl) ?_
    refine va_get (D := G) (ci := 12) (v := .ref q_t_puts) (C := RX12) (T := TX12) (N := 51) hx hb hts hkX12_movesOf_X12 hown hK hP 0 rfl rfl 3 (by decide) (hts (.fieldLink RX12 19 "NestReadersModel" "puts" "[I") hfX12_movesOf_19) (fun _ h9 => h9) rfl dX12_movesOf_12 ?_
    refine lv_bipush (v := (12)) hx hb dX12_movesOf_15 (by decide) ?_
    refine lv_iload_n hx hb dX12_movesOf_17 rfl (lv_at hl 1 rfl) ?_
    refine lv_imul hx hb dX12_movesOf_18 ?_
    refine lv_iload_n hx hb dX12_movesOf_19 rfl (lv_at hl 3 rfl) ?_
    refine lv_iadd hx hb dX12_movesOf_20 ?_
    refine va_iald (D := G) hx hb hK hP 1 0 rfl rfl hw.1 dX12_movesOf_21 ?_
    have hw := hw.2
    refine ms_cSi ⟨hx, hb, hml, hown, hts⟩ hK hP hD (c_X12_bits l G cI cJ cZ (A_puts (((12 : Int32) * p0) + i4_3).toNatClampNeg) hw) gX12_movesOf_X12_bits rfl nd_X12_bits ⟨rfl, rfl⟩ rfl ⟨Nat.le_of_ble_eq_true rfl, Nat.le_of_ble_eq_true rfl⟩ hl.1 (rest := [.int i4_2]) rfl (Nat.le_of_ble_eq_true rfl)  [] rfl rfl dX12_movesOf_22 (fun r10 hw => ?_)
    refine lv_iadd hx hb dX12_movesOf_25 ?_
    refine lv_topi (fun x11 ex11 => ?_)
    have hw := hw x11 ex11
    refine lv_istore_n (lv' := [(2, .int x11), (0, .ref q_t), (1, .int p0), (3, .int i4_3)]) hx hb dX12_movesOf_26 rfl hl (by decide) rfl (fun ls hl => ?_)
    obtain ⟨x12, ex12⟩ : ∃ y : Int32, y = i4_3 + (1 : Int32) := ⟨_, rfl⟩
    have hw := hw x12 ex12
    refine lv_iinc (v := x12) (lv' := [(3, .int x12), (2, .int x11), (0, .ref q_t), (1, .int p0)]) hx hb dX12_movesOf_27 hl (k := 3) rfl (by rw [ex12]; rfl) (by decide) rfl (fun ls hl => ?_)
    refine lv_goto (tgt := 4) hx hb dX12_movesOf_30 (by decide) ?_
    exact hw ls (lv_sub hl [2, 3, 1, 0] rfl)
def wX12_tos (p0 : Int32) (p1 : Int32) (p2 : Int32) (p3 : Int32) (A_puts : Nat → Int32) (A_goes : Nat → Int32) (A_closes : Nat → Int32) (K : Int32 → Prop) : Prop :=
  (((2 : Int32) ≤ p2 → (((4 : Int32) ≤ p2 → (wX12_closeAt p0 p2 p1 p3 (fun r3 => (vp_in r3 36 ∧ K (A_closes r3.toNatClampNeg))))) ∧ (¬ (4 : Int32) ≤ p2 → (wX12_goAt p0 p2 p1 (fun r4 => (vp_in r4 12 ∧ K (A_goes r4.toNatClampNeg))))))) ∧ (¬ (2 : Int32) ≤ p2 → (wX12_putAt p0 p2 p1 p3 (fun r5 => (vp_in r5 24 ∧ K (A_puts r5.toNatClampNeg))))))
abbrev rmX12_tos : Room := { frames := 1, cells := 0, slots := 0, locals := 23 }
theorem nd_X12_tos : yX12_tos.cls = RX12 ∧ yX12_tos.cls ≠ "java/lang/invoke/MethodHandle" ∧ yX12_tos.cls ≠ "java/lang/invoke/VarHandle" ∧ (parseMethodDescriptor yX12_tos.desc).map (fun d => d.parameters.length) = some 4 := by decide +kernel
theorem hkX12_tos_X12 : ∀ w ∈ u_ws RX12 TX12 51, w ∈ wsX12_tos := fun w h => List.mem_cons_of_mem _ (inlX12 w h)
theorem hfX12_tos_25 : (Cond.fieldLink RX12 25 "NestReadersModel" "closes" "[I") ∈ wsX12_tos := List.mem_cons_of_mem _ m9_1
theorem hfX12_tos_22 : (Cond.fieldLink RX12 22 "NestReadersModel" "goes" "[I") ∈ wsX12_tos := List.mem_cons_of_mem _ m9_0
theorem hfX12_tos_19 : (Cond.fieldLink RX12 19 "NestReadersModel" "puts" "[I") ∈ wsX12_tos := List.mem_cons_of_mem _ m8_23
set_option maxHeartbeats 4000000 in
set_option maxRecDepth 100000 in
theorem c_X12_tos (l : Launch) (G : va_G) (cI cJ cZ : ClassId) (q_t q_t_states q_t_markMany q_t_takes q_t_puts q_t_goes q_t_closes q_t_text q_t_read q_t_row q_t_partner q_t_some q_t_stackCome q_t_stackSince q_t_stackLetter q_t_runs q_t_ways q_t_keptRuns q_t_keptWays q_t_rel q_t_whole q_t_wholeLong q_t_nodeCome q_t_nodeSince q_t_nodeDeep q_t_nodeLong q_t_wholeMany q_t_blockTo q_t_nodeMany q_t_listCome q_t_listSince q_t_nextCome q_t_nextSince : Nat) (F_bytes : Int32) (F_position : Int32) (F_tokenAt : Int32) (F_token : Int64) (F_digits : Int32) (F_number : Int32) (F_faultAt : Int32) (F_readMany : Int32) (F_size : Int32) (F_stacked : Int32) (F_come : Int32) (F_since : Int32) (F_known : Int32) (F_isSpent : Int32) (F_wholes : Int32) (F_nodes : Int32) (F_places : Int32) (F_listed : Int32) (F_nexts : Int32) (A_puts : Nat → Int32) (A_goes : Nat → Int32) (A_closes : Nat → Int32) (p0 : Int32) (p1 : Int32) (p2 : Int32) (p3 : Int32) {K : Int32 → Prop} (hw : wX12_tos p0 p1 p2 p3 A_puts A_goes A_closes K) : Met l yX12_tos wsX12_tos rmX12_tos (ms_P G (ms_T cI cJ cZ) [(q_t, .inr (12, [.ref q_t_states, .ref q_t_markMany, .ref q_t_takes, .ref q_t_puts, .ref q_t_goes, .ref q_t_closes, .int F_bytes, .ref q_t_text, .int F_position, .int F_tokenAt, .long F_token, .int F_digits, .int F_number, .int F_faultAt, .int F_readMany, .ref q_t_read, .int F_size, .ref q_t_row, .ref q_t_partner, .ref q_t_some, .ref q_t_stackCome, .ref q_t_stackSince, .ref q_t_stackLetter, .int F_stacked, .int F_come, .int F_since, .ref q_t_runs, .ref q_t_ways, .ref q_t_keptRuns, .ref q_t_keptWays, .ref q_t_rel, .int F_known, .int F_isSpent, .ref q_t_whole, .ref q_t_wholeLong, .int F_wholes, .ref q_t_nodeCome, .ref q_t_nodeSince, .ref q_t_nodeDeep, .ref q_t_nodeLong, .int F_nodes, .int F_places, .ref q_t_wholeMany, .ref q_t_blockTo, .ref q_t_nodeMany, .ref q_t_listCome, .ref q_t_listSince, .int F_listed, .ref q_t_nextCome, .ref q_t_nextSince, .int F_nexts])), (q_t_puts, .inl (cI, 24, .inl A_puts)), (q_t_goes, .inl (cI, 12, .inl A_goes)), (q_t_closes, .inl (cI, 36, .inl A_closes))] [.ref q_t, .int p0, .int p1, .int p2, .int p3]) (ms_Qi K) 0 0 ms_N := by
  refine ms_si (cc := cX12_tos) (maxL := 5) (ty := .int) (by decide) rfl (Nat.le_of_ble_eq_true rfl) ?_
  intro p e s m args below meth c Q hx hb hml hown hts hK hP hD hRet ls hl
  have hl : lv_has ls 5 [(0, .ref q_t), (1, .int p0), (2, .int p1), (3, .int p2), (4, .int p3)] := hl
  have hown : s.vm.findClass RX12 = some m.cls := hown
  refine lv_iload_n hx hb dX12_tos_0 rfl (lv_at hl 3 rfl) ?_
  refine lv_iconst (v := 2) hx hb dX12_tos_1 (by decide) ?_
  refine lv_icmp_ge (tgt := 21) hx hb dX12_tos_2 (by decide) (fun c1 => ?_) (fun c1 => ?_)
  · have hw := hw.1 c1
    refine lv_iload_n hx hb dX12_tos_21 rfl (lv_at hl 3 rfl) ?_
    refine lv_iconst (v := 4) hx hb dX12_tos_22 (by decide) ?_
    refine lv_icmp_ge (tgt := 40) hx hb dX12_tos_23 (by decide) (fun c2 => ?_) (fun c2 => ?_)
    · have hw := hw.1 c2
      refine lv_aload_n hx hb dX12_tos_40 rfl (lv_at hl 0 rfl) ?_
      refine va_get (D := G) (ci := 12) (v := .ref q_t_closes) (C := RX12) (T := TX12) (N := 51) hx hb hts hkX12_tos_X12 hown hK hP 0 rfl rfl 5 (by decide) (hts (.fieldLink RX12 25 "NestReadersModel" "closes" "[I") hfX12_tos_25) (fun _ h9 => h9) rfl dX12_tos_41 ?_
      refine lv_iload_n hx hb dX12_tos_44 rfl (lv_at hl 1 rfl) ?_
      refine lv_iload_n hx hb dX12_tos_45 rfl (lv_at hl 3 rfl) ?_
      refine lv_iload_n hx hb dX12_tos_46 rfl (lv_at hl 2 rfl) ?_
      refine lv_iload hx hb dX12_tos_47 (lv_at hl 4 rfl) ?_
      refine ms_cSi ⟨hx, hb, hml, hown, hts⟩ hK hP hD (c_X12_closeAt l G cI cJ cZ p0 p2 p1 p3 hw) gX12_tos_X12_closeAt rfl nd_X12_closeAt ⟨rfl, rfl⟩ rfl ⟨Nat.le_of_ble_eq_true rfl, Nat.le_of_ble_eq_true rfl⟩ hl.1 (rest := [.ref q_t_closes]) rfl (Nat.le_of_ble_eq_true rfl)  [] rfl rfl dX12_tos_49 (fun r3 hw => ?_)
      refine va_iald (D := G) hx hb hK hP 3 0 rfl rfl hw.1 dX12_tos_52 ?_
      have hw := hw.2
      exact hRet (A_closes r3.toNatClampNeg) _ _ hw (vp_nar_int _) dX12_tos_53
    · have hw := hw.2 c2
      refine lv_aload_n hx hb dX12_tos_26 rfl (lv_at hl 0 rfl) ?_
      refine va_get (D := G) (ci := 12) (v := .ref q_t_goes) (C := RX12) (T := TX12) (N := 51) hx hb hts hkX12_tos_X12 hown hK hP 0 rfl rfl 4 (by decide) (hts (.fieldLink RX12 22 "NestReadersModel" "goes" "[I") hfX12_tos_22) (fun _ h9 => h9) rfl dX12_tos_27 ?_
      refine lv_iload_n hx hb dX12_tos_30 rfl (lv_at hl 1 rfl) ?_
      refine lv_iload_n hx hb dX12_tos_31 rfl (lv_at hl 3 rfl) ?_
      refine lv_iload_n hx hb dX12_tos_32 rfl (lv_at hl 2 rfl) ?_
      refine ms_cSi ⟨hx, hb, hml, hown, hts⟩ hK hP hD (c_X12_goAt l G cI cJ cZ p0 p2 p1 hw) gX12_tos_X12_goAt rfl nd_X12_goAt ⟨rfl, rfl⟩ rfl ⟨Nat.le_of_ble_eq_true rfl, Nat.le_of_ble_eq_true rfl⟩ hl.1 (rest := [.ref q_t_goes]) rfl (Nat.le_of_ble_eq_true rfl)  [] rfl rfl dX12_tos_33 (fun r4 hw => ?_)
      refine va_iald (D := G) hx hb hK hP 2 0 rfl rfl hw.1 dX12_tos_36 ?_
      have hw := hw.2
      refine lv_goto (tgt := 53) hx hb dX12_tos_37 (by decide) ?_
      exact hRet (A_goes r4.toNatClampNeg) _ _ hw (vp_nar_int _) dX12_tos_53
  · have hw := hw.2 c1
    refine lv_aload_n hx hb dX12_tos_5 rfl (lv_at hl 0 rfl) ?_
    refine va_get (D := G) (ci := 12) (v := .ref q_t_puts) (C := RX12) (T := TX12) (N := 51) hx hb hts hkX12_tos_X12 hown hK hP 0 rfl rfl 3 (by decide) (hts (.fieldLink RX12 19 "NestReadersModel" "puts" "[I") hfX12_tos_19) (fun _ h9 => h9) rfl dX12_tos_6 ?_
    refine lv_iload_n hx hb dX12_tos_9 rfl (lv_at hl 1 rfl) ?_
    refine lv_iload_n hx hb dX12_tos_10 rfl (lv_at hl 3 rfl) ?_
    refine lv_iload_n hx hb dX12_tos_11 rfl (lv_at hl 2 rfl) ?_
    refine lv_iload hx hb dX12_tos_12 (lv_at hl 4 rfl) ?_
    refine ms_cSi ⟨hx, hb, hml, hown, hts⟩ hK hP hD (c_X12_putAt l G cI cJ cZ p0 p2 p1 p3 hw) gX12_tos_X12_putAt rfl nd_X12_putAt ⟨rfl, rfl⟩ rfl ⟨Nat.le_of_ble_eq_true rfl, Nat.le_of_ble_eq_true rfl⟩ hl.1 (rest := [.ref q_t_puts]) rfl (Nat.le_of_ble_eq_true rfl)  [] rfl rfl dX12_tos_14 (fun r5 hw => ?_)
    refine va_iald (D := G) hx hb hK hP 1 0 rfl rfl hw.1 dX12_tos_17 ?_
    have hw := hw.2
    refine lv_goto (tgt := 53) hx hb dX12_tos_18 (by decide) ?_
    exact hRet (A_puts r5.toNatClampNeg) _ _ hw (vp_nar_int _) dX12_tos_53
def wX12_tell (p0 : Int32) (p1 : Int32) (p2 : Int32) (p3 : Int32) (p4 : Int32) (F_known : Int32) (A_puts : Nat → Int32) (A_goes : Nat → Int32) (A_closes : Nat → Int32) (K : Int32 → (Nat → Int32) → (Nat → Int32) → (Nat → Int32) → Prop) : Prop :=
  (((2 : Int32) ≤ p2 → (((4 : Int32) ≤ p2 → (wX12_closeAt p0 p2 p1 p3 (fun r3 => (vp_in r3 36 ∧ (∀ g4 : Nat → Int32, g4 = upd A_closes r3.toNatClampNeg p4 → K (-1 : Int32) A_puts A_goes g4))))) ∧ (¬ (4 : Int32) ≤ p2 → (wX12_goAt p0 p2 p1 (fun r5 => (vp_in r5 12 ∧ (∀ g6 : Nat → Int32, g6 = upd A_goes r5.toNatClampNeg p4 → K (-1 : Int32) A_puts g6 A_closes))))))) ∧ (¬ (2 : Int32) ≤ p2 → (wX12_putAt p0 p2 p1 p3 (fun r7 => (vp_in r7 24 ∧ (∀ g8 : Nat → Int32, g8 = upd A_puts r7.toNatClampNeg p4 → K (-1 : Int32) g8 A_goes A_closes))))))
abbrev rmX12_tell : Room := { frames := 1, cells := 0, slots := 0, locals := 23 }
theorem nd_X12_tell : yX12_tell.cls = RX12 ∧ yX12_tell.cls ≠ "java/lang/invoke/MethodHandle" ∧ yX12_tell.cls ≠ "java/lang/invoke/VarHandle" ∧ (parseMethodDescriptor yX12_tell.desc).map (fun d => d.parameters.length) = some 5 := by decide +kernel
theorem hkX12_tell_X12 : ∀ w ∈ u_ws RX12 TX12 51, w ∈ wsX12_tell := fun w h => List.mem_cons_of_mem _ (inlX12 w h)
theorem hfX12_tell_25 : (Cond.fieldLink RX12 25 "NestReadersModel" "closes" "[I") ∈ wsX12_tell := List.mem_cons_of_mem _ m9_1
theorem hfX12_tell_68 : (Cond.fieldLink RX12 68 "NestReadersModel" "known" "I") ∈ wsX12_tell := List.mem_cons_of_mem _ m9_15
theorem hfX12_tell_22 : (Cond.fieldLink RX12 22 "NestReadersModel" "goes" "[I") ∈ wsX12_tell := List.mem_cons_of_mem _ m9_0
theorem hfX12_tell_19 : (Cond.fieldLink RX12 19 "NestReadersModel" "puts" "[I") ∈ wsX12_tell := List.mem_cons_of_mem _ m8_23
set_option maxHeartbeats 4000000 in
set_option maxRecDepth 100000 in
theorem c_X12_tell (l : Launch) (G : va_G) (cI cJ cZ : ClassId) (q_t q_t_states q_t_markMany q_t_takes q_t_puts q_t_goes q_t_closes q_t_text q_t_read q_t_row q_t_partner q_t_some q_t_stackCome q_t_stackSince q_t_stackLetter q_t_runs q_t_ways q_t_keptRuns q_t_keptWays q_t_rel q_t_whole q_t_wholeLong q_t_nodeCome q_t_nodeSince q_t_nodeDeep q_t_nodeLong q_t_wholeMany q_t_blockTo q_t_nodeMany q_t_listCome q_t_listSince q_t_nextCome q_t_nextSince : Nat) (sz : Nat) (F_bytes : Int32) (F_position : Int32) (F_tokenAt : Int32) (F_token : Int64) (F_digits : Int32) (F_number : Int32) (F_faultAt : Int32) (F_readMany : Int32) (F_size : Int32) (F_stacked : Int32) (F_come : Int32) (F_since : Int32) (F_known : Int32) (F_isSpent : Int32) (F_wholes : Int32) (F_nodes : Int32) (F_places : Int32) (F_listed : Int32) (F_nexts : Int32) (A_puts : Nat → Int32) (A_goes : Nat → Int32) (A_closes : Nat → Int32) (p0 : Int32) (p1 : Int32) (p2 : Int32) (p3 : Int32) (p4 : Int32) {K : Int32 → (Nat → Int32) → (Nat → Int32) → (Nat → Int32) → Prop} (hw : wX12_tell p0 p1 p2 p3 p4 F_known A_puts A_goes A_closes K) : Met l yX12_tell wsX12_tell rmX12_tell (ms_Pz G (ms_T cI cJ cZ) [(q_t, .inr (12, [.ref q_t_states, .ref q_t_markMany, .ref q_t_takes, .ref q_t_puts, .ref q_t_goes, .ref q_t_closes, .int F_bytes, .ref q_t_text, .int F_position, .int F_tokenAt, .long F_token, .int F_digits, .int F_number, .int F_faultAt, .int F_readMany, .ref q_t_read, .int F_size, .ref q_t_row, .ref q_t_partner, .ref q_t_some, .ref q_t_stackCome, .ref q_t_stackSince, .ref q_t_stackLetter, .int F_stacked, .int F_come, .int F_since, .ref q_t_runs, .ref q_t_ways, .ref q_t_keptRuns, .ref q_t_keptWays, .ref q_t_rel, .int F_known, .int F_isSpent, .ref q_t_whole, .ref q_t_wholeLong, .int F_wholes, .ref q_t_nodeCome, .ref q_t_nodeSince, .ref q_t_nodeDeep, .ref q_t_nodeLong, .int F_nodes, .int F_places, .ref q_t_wholeMany, .ref q_t_blockTo, .ref q_t_nodeMany, .ref q_t_listCome, .ref q_t_listSince, .int F_listed, .ref q_t_nextCome, .ref q_t_nextSince, .int F_nexts])), (q_t_puts, .inl (cI, 24, .inl A_puts)), (q_t_goes, .inl (cI, 12, .inl A_goes)), (q_t_closes, .inl (cI, 36, .inl A_closes))] sz [.ref q_t, .int p0, .int p1, .int p2, .int p3, .int p4]) (ms_Wv G (ms_T cI cJ cZ) (fun (u : Int32 × (Nat → Int32) × (Nat → Int32) × (Nat → Int32)) => K u.1 u.2.1 u.2.2.1 u.2.2.2) (fun u : Int32 × (Nat → Int32) × (Nat → Int32) × (Nat → Int32) => [(q_t, .inr (12, [.ref q_t_states, .ref q_t_markMany, .ref q_t_takes, .ref q_t_puts, .ref q_t_goes, .ref q_t_closes, .int F_bytes, .ref q_t_text, .int F_position, .int F_tokenAt, .long F_token, .int F_digits, .int F_number, .int F_faultAt, .int F_readMany, .ref q_t_read, .int F_size, .ref q_t_row, .ref q_t_partner, .ref q_t_some, .ref q_t_stackCome, .ref q_t_stackSince, .ref q_t_stackLetter, .int F_stacked, .int F_come, .int F_since, .ref q_t_runs, .ref q_t_ways, .ref q_t_keptRuns, .ref q_t_keptWays, .ref q_t_rel, .int u.1, .int F_isSpent, .ref q_t_whole, .ref q_t_wholeLong, .int F_wholes, .ref q_t_nodeCome, .ref q_t_nodeSince, .ref q_t_nodeDeep, .ref q_t_nodeLong, .int F_nodes, .int F_places, .ref q_t_wholeMany, .ref q_t_blockTo, .ref q_t_nodeMany, .ref q_t_listCome, .ref q_t_listSince, .int F_listed, .ref q_t_nextCome, .ref q_t_nextSince, .int F_nexts])), (q_t_puts, .inl (cI, 24, .inl u.2.1)), (q_t_goes, .inl (cI, 12, .inl u.2.2.1)), (q_t_closes, .inl (cI, 36, .inl u.2.2.2))]) (va_A [(q_t, .inr (12, [.ref q_t_states, .ref q_t_markMany, .ref q_t_takes, .ref q_t_puts, .ref q_t_goes, .ref q_t_closes, .int F_bytes, .ref q_t_text, .int F_position, .int F_tokenAt, .long F_token, .int F_digits, .int F_number, .int F_faultAt, .int F_readMany, .ref q_t_read, .int F_size, .ref q_t_row, .ref q_t_partner, .ref q_t_some, .ref q_t_stackCome, .ref q_t_stackSince, .ref q_t_stackLetter, .int F_stacked, .int F_come, .int F_since, .ref q_t_runs, .ref q_t_ways, .ref q_t_keptRuns, .ref q_t_keptWays, .ref q_t_rel, .int F_known, .int F_isSpent, .ref q_t_whole, .ref q_t_wholeLong, .int F_wholes, .ref q_t_nodeCome, .ref q_t_nodeSince, .ref q_t_nodeDeep, .ref q_t_nodeLong, .int F_nodes, .int F_places, .ref q_t_wholeMany, .ref q_t_blockTo, .ref q_t_nodeMany, .ref q_t_listCome, .ref q_t_listSince, .int F_listed, .ref q_t_nextCome, .ref q_t_nextSince, .int F_nexts])), (q_t_puts, .inl (cI, 24, .inl A_puts)), (q_t_goes, .inl (cI, 12, .inl A_goes)), (q_t_closes, .inl (cI, 36, .inl A_closes))] sz)) 0 0 (va_A [(q_t, .inr (12, [.ref q_t_states, .ref q_t_markMany, .ref q_t_takes, .ref q_t_puts, .ref q_t_goes, .ref q_t_closes, .int F_bytes, .ref q_t_text, .int F_position, .int F_tokenAt, .long F_token, .int F_digits, .int F_number, .int F_faultAt, .int F_readMany, .ref q_t_read, .int F_size, .ref q_t_row, .ref q_t_partner, .ref q_t_some, .ref q_t_stackCome, .ref q_t_stackSince, .ref q_t_stackLetter, .int F_stacked, .int F_come, .int F_since, .ref q_t_runs, .ref q_t_ways, .ref q_t_keptRuns, .ref q_t_keptWays, .ref q_t_rel, .int F_known, .int F_isSpent, .ref q_t_whole, .ref q_t_wholeLong, .int F_wholes, .ref q_t_nodeCome, .ref q_t_nodeSince, .ref q_t_nodeDeep, .ref q_t_nodeLong, .int F_nodes, .int F_places, .ref q_t_wholeMany, .ref q_t_blockTo, .ref q_t_nodeMany, .ref q_t_listCome, .ref q_t_listSince, .int F_listed, .ref q_t_nextCome, .ref q_t_nextSince, .int F_nexts])), (q_t_puts, .inl (cI, 24, .inl A_puts)), (q_t_goes, .inl (cI, 12, .inl A_goes)), (q_t_closes, .inl (cI, 36, .inl A_closes))] sz) := by
  refine ms_tv (cc := cX12_tell) (maxL := 6) (by decide) rfl (Nat.le_of_ble_eq_true rfl) ?_
  intro p e s m args below meth c Q A hx hb hml hown hts hK hP hD hS hA hRet ls hl
  have hl : lv_has ls 6 [(0, .ref q_t), (1, .int p0), (2, .int p1), (3, .int p2), (4, .int p3), (5, .int p4)] := hl
  have hown : s.vm.findClass RX12 = some m.cls := hown
  refine lv_iload_n hx hb dX12_tell_0 rfl (lv_at hl 3 rfl) ?_
  refine lv_iconst (v := 2) hx hb dX12_tell_1 (by decide) ?_
  refine lv_icmp_ge (tgt := 23) hx hb dX12_tell_2 (by decide) (fun c1 => ?_) (fun c1 => ?_)
  · have hw := hw.1 c1
    refine lv_iload_n hx hb dX12_tell_23 rfl (lv_at hl 3 rfl) ?_
    refine lv_iconst (v := 4) hx hb dX12_tell_24 (by decide) ?_
    refine lv_icmp_ge (tgt := 44) hx hb dX12_tell_25 (by decide) (fun c2 => ?_) (fun c2 => ?_)
    · have hw := hw.1 c2
      refine lv_aload_n hx hb dX12_tell_44 rfl (lv_at hl 0 rfl) ?_
      refine va_get (D := G) (ci := 12) (v := .ref q_t_closes) (C := RX12) (T := TX12) (N := 51) hx hb hts hkX12_tell_X12 hown hK hP 0 rfl rfl 5 (by decide) (hts (.fieldLink RX12 25 "NestReadersModel" "closes" "[I") hfX12_tell_25) (fun _ h9 => h9) rfl dX12_tell_45 ?_
      refine lv_iload_n hx hb dX12_tell_48 rfl (lv_at hl 1 rfl) ?_
      refine lv_iload_n hx hb dX12_tell_49 rfl (lv_at hl 3 rfl) ?_
      refine lv_iload_n hx hb dX12_tell_50 rfl (lv_at hl 2 rfl) ?_
      refine lv_iload hx hb dX12_tell_51 (lv_at hl 4 rfl) ?_
      refine ms_cSi ⟨hx, hb, hml, hown, hts⟩ hK hP hD (c_X12_closeAt l G cI cJ cZ p0 p2 p1 p3 hw) gX12_tell_X12_closeAt rfl nd_X12_closeAt ⟨rfl, rfl⟩ rfl ⟨Nat.le_of_ble_eq_true rfl, Nat.le_of_ble_eq_true rfl⟩ hl.1 (rest := [.ref q_t_closes]) rfl (Nat.le_of_ble_eq_true rfl)  [] rfl rfl dX12_tell_53 (fun r3 hw => ?_)
      refine lv_iload hx hb dX12_tell_56 (lv_at hl 5 rfl) ?_
      refine ms_iast hx hb hK hP hD hS 3 0 rfl rfl hw.1 dX12_tell_58 (fun g4 H locs eg4 hP hD hS => ?_)
      have hw := hw.2 g4 eg4
      have hP : va_P G vwCl [(q_t, .inr (12, [.ref q_t_states, .ref q_t_markMany, .ref q_t_takes, .ref q_t_puts, .ref q_t_goes, .ref q_t_closes, .int F_bytes, .ref q_t_text, .int F_position, .int F_tokenAt, .long F_token, .int F_digits, .int F_number, .int F_faultAt, .int F_readMany, .ref q_t_read, .int F_size, .ref q_t_row, .ref q_t_partner, .ref q_t_some, .ref q_t_stackCome, .ref q_t_stackSince, .ref q_t_stackLetter, .int F_stacked, .int F_come, .int F_since, .ref q_t_runs, .ref q_t_ways, .ref q_t_keptRuns, .ref q_t_keptWays, .ref q_t_rel, .int F_known, .int F_isSpent, .ref q_t_whole, .ref q_t_wholeLong, .int F_wholes, .ref q_t_nodeCome, .ref q_t_nodeSince, .ref q_t_nodeDeep, .ref q_t_nodeLong, .int F_nodes, .int F_places, .ref q_t_wholeMany, .ref q_t_blockTo, .ref q_t_nodeMany, .ref q_t_listCome, .ref q_t_listSince, .int F_listed, .ref q_t_nextCome, .ref q_t_nextSince, .int F_nexts])), (q_t_puts, .inl (cI, 24, .inl A_puts)), (q_t_goes, .inl (cI, 12, .inl A_goes)), (q_t_closes, .inl (cI, 36, .inl g4))] H := hP
      have hD : va_D A [(q_t, .inr (12, [.ref q_t_states, .ref q_t_markMany, .ref q_t_takes, .ref q_t_puts, .ref q_t_goes, .ref q_t_closes, .int F_bytes, .ref q_t_text, .int F_position, .int F_tokenAt, .long F_token, .int F_digits, .int F_number, .int F_faultAt, .int F_readMany, .ref q_t_read, .int F_size, .ref q_t_row, .ref q_t_partner, .ref q_t_some, .ref q_t_stackCome, .ref q_t_stackSince, .ref q_t_stackLetter, .int F_stacked, .int F_come, .int F_since, .ref q_t_runs, .ref q_t_ways, .ref q_t_keptRuns, .ref q_t_keptWays, .ref q_t_rel, .int F_known, .int F_isSpent, .ref q_t_whole, .ref q_t_wholeLong, .int F_wholes, .ref q_t_nodeCome, .ref q_t_nodeSince, .ref q_t_nodeDeep, .ref q_t_nodeLong, .int F_nodes, .int F_places, .ref q_t_wholeMany, .ref q_t_blockTo, .ref q_t_nodeMany, .ref q_t_listCome, .ref q_t_listSince, .int F_listed, .ref q_t_nextCome, .ref q_t_nextSince, .int F_nexts])), (q_t_puts, .inl (cI, 24, .inl A_puts)), (q_t_goes, .inl (cI, 12, .inl A_goes)), (q_t_closes, .inl (cI, 36, .inl g4))] := hD
      refine lv_aload_n hx hb dX12_tell_59 rfl (lv_at hl 0 rfl) ?_
      refine lv_iconst (v := (-1)) hx hb dX12_tell_60 (by decide) ?_
      refine va_put (D := G) (ci := 12) (v := .int (-1 : Int32)) (ty := .int) (C := RX12) (T := TX12) (N := 51) hx hb hts hkX12_tell_X12 tyX12 tyX12_ok nmX12 hown hK hP hD hS 0 rfl rfl 31 (by decide) (hts (.fieldLink RX12 68 "NestReadersModel" "known" "I") hfX12_tell_68) (fun _ h9 => h9) rfl (by decide +kernel) rfl rfl (Nat.le_of_ble_eq_true rfl) dX12_tell_61 (fun H locs hP hD hS => ?_)
      have hP : va_P G vwCl [(q_t, .inr (12, [.ref q_t_states, .ref q_t_markMany, .ref q_t_takes, .ref q_t_puts, .ref q_t_goes, .ref q_t_closes, .int F_bytes, .ref q_t_text, .int F_position, .int F_tokenAt, .long F_token, .int F_digits, .int F_number, .int F_faultAt, .int F_readMany, .ref q_t_read, .int F_size, .ref q_t_row, .ref q_t_partner, .ref q_t_some, .ref q_t_stackCome, .ref q_t_stackSince, .ref q_t_stackLetter, .int F_stacked, .int F_come, .int F_since, .ref q_t_runs, .ref q_t_ways, .ref q_t_keptRuns, .ref q_t_keptWays, .ref q_t_rel, .int (-1 : Int32), .int F_isSpent, .ref q_t_whole, .ref q_t_wholeLong, .int F_wholes, .ref q_t_nodeCome, .ref q_t_nodeSince, .ref q_t_nodeDeep, .ref q_t_nodeLong, .int F_nodes, .int F_places, .ref q_t_wholeMany, .ref q_t_blockTo, .ref q_t_nodeMany, .ref q_t_listCome, .ref q_t_listSince, .int F_listed, .ref q_t_nextCome, .ref q_t_nextSince, .int F_nexts])), (q_t_puts, .inl (cI, 24, .inl A_puts)), (q_t_goes, .inl (cI, 12, .inl A_goes)), (q_t_closes, .inl (cI, 36, .inl g4))] H := hP
      have hD : va_D A [(q_t, .inr (12, [.ref q_t_states, .ref q_t_markMany, .ref q_t_takes, .ref q_t_puts, .ref q_t_goes, .ref q_t_closes, .int F_bytes, .ref q_t_text, .int F_position, .int F_tokenAt, .long F_token, .int F_digits, .int F_number, .int F_faultAt, .int F_readMany, .ref q_t_read, .int F_size, .ref q_t_row, .ref q_t_partner, .ref q_t_some, .ref q_t_stackCome, .ref q_t_stackSince, .ref q_t_stackLetter, .int F_stacked, .int F_come, .int F_since, .ref q_t_runs, .ref q_t_ways, .ref q_t_keptRuns, .ref q_t_keptWays, .ref q_t_rel, .int (-1 : Int32), .int F_isSpent, .ref q_t_whole, .ref q_t_wholeLong, .int F_wholes, .ref q_t_nodeCome, .ref q_t_nodeSince, .ref q_t_nodeDeep, .ref q_t_nodeLong, .int F_nodes, .int F_places, .ref q_t_wholeMany, .ref q_t_blockTo, .ref q_t_nodeMany, .ref q_t_listCome, .ref q_t_listSince, .int F_listed, .ref q_t_nextCome, .ref q_t_nextSince, .int F_nexts])), (q_t_puts, .inl (cI, 24, .inl A_puts)), (q_t_goes, .inl (cI, 12, .inl A_goes)), (q_t_closes, .inl (cI, 36, .inl g4))] := hD
      exact hRet ⟨(-1 : Int32), A_puts, A_goes, g4⟩ H locs _ _ hw hP hD hS dX12_tell_64
    · have hw := hw.2 c2
      refine lv_aload_n hx hb dX12_tell_28 rfl (lv_at hl 0 rfl) ?_
      refine va_get (D := G) (ci := 12) (v := .ref q_t_goes) (C := RX12) (T := TX12) (N := 51) hx hb hts hkX12_tell_X12 hown hK hP 0 rfl rfl 4 (by decide) (hts (.fieldLink RX12 22 "NestReadersModel" "goes" "[I") hfX12_tell_22) (fun _ h9 => h9) rfl dX12_tell_29 ?_
      refine lv_iload_n hx hb dX12_tell_32 rfl (lv_at hl 1 rfl) ?_
      refine lv_iload_n hx hb dX12_tell_33 rfl (lv_at hl 3 rfl) ?_
      refine lv_iload_n hx hb dX12_tell_34 rfl (lv_at hl 2 rfl) ?_
      refine ms_cSi ⟨hx, hb, hml, hown, hts⟩ hK hP hD (c_X12_goAt l G cI cJ cZ p0 p2 p1 hw) gX12_tell_X12_goAt rfl nd_X12_goAt ⟨rfl, rfl⟩ rfl ⟨Nat.le_of_ble_eq_true rfl, Nat.le_of_ble_eq_true rfl⟩ hl.1 (rest := [.ref q_t_goes]) rfl (Nat.le_of_ble_eq_true rfl)  [] rfl rfl dX12_tell_35 (fun r5 hw => ?_)
      refine lv_iload hx hb dX12_tell_38 (lv_at hl 5 rfl) ?_
      refine ms_iast hx hb hK hP hD hS 2 0 rfl rfl hw.1 dX12_tell_40 (fun g6 H locs eg6 hP hD hS => ?_)
      have hw := hw.2 g6 eg6
      have hP : va_P G vwCl [(q_t, .inr (12, [.ref q_t_states, .ref q_t_markMany, .ref q_t_takes, .ref q_t_puts, .ref q_t_goes, .ref q_t_closes, .int F_bytes, .ref q_t_text, .int F_position, .int F_tokenAt, .long F_token, .int F_digits, .int F_number, .int F_faultAt, .int F_readMany, .ref q_t_read, .int F_size, .ref q_t_row, .ref q_t_partner, .ref q_t_some, .ref q_t_stackCome, .ref q_t_stackSince, .ref q_t_stackLetter, .int F_stacked, .int F_come, .int F_since, .ref q_t_runs, .ref q_t_ways, .ref q_t_keptRuns, .ref q_t_keptWays, .ref q_t_rel, .int F_known, .int F_isSpent, .ref q_t_whole, .ref q_t_wholeLong, .int F_wholes, .ref q_t_nodeCome, .ref q_t_nodeSince, .ref q_t_nodeDeep, .ref q_t_nodeLong, .int F_nodes, .int F_places, .ref q_t_wholeMany, .ref q_t_blockTo, .ref q_t_nodeMany, .ref q_t_listCome, .ref q_t_listSince, .int F_listed, .ref q_t_nextCome, .ref q_t_nextSince, .int F_nexts])), (q_t_puts, .inl (cI, 24, .inl A_puts)), (q_t_goes, .inl (cI, 12, .inl g6)), (q_t_closes, .inl (cI, 36, .inl A_closes))] H := hP
      have hD : va_D A [(q_t, .inr (12, [.ref q_t_states, .ref q_t_markMany, .ref q_t_takes, .ref q_t_puts, .ref q_t_goes, .ref q_t_closes, .int F_bytes, .ref q_t_text, .int F_position, .int F_tokenAt, .long F_token, .int F_digits, .int F_number, .int F_faultAt, .int F_readMany, .ref q_t_read, .int F_size, .ref q_t_row, .ref q_t_partner, .ref q_t_some, .ref q_t_stackCome, .ref q_t_stackSince, .ref q_t_stackLetter, .int F_stacked, .int F_come, .int F_since, .ref q_t_runs, .ref q_t_ways, .ref q_t_keptRuns, .ref q_t_keptWays, .ref q_t_rel, .int F_known, .int F_isSpent, .ref q_t_whole, .ref q_t_wholeLong, .int F_wholes, .ref q_t_nodeCome, .ref q_t_nodeSince, .ref q_t_nodeDeep, .ref q_t_nodeLong, .int F_nodes, .int F_places, .ref q_t_wholeMany, .ref q_t_blockTo, .ref q_t_nodeMany, .ref q_t_listCome, .ref q_t_listSince, .int F_listed, .ref q_t_nextCome, .ref q_t_nextSince, .int F_nexts])), (q_t_puts, .inl (cI, 24, .inl A_puts)), (q_t_goes, .inl (cI, 12, .inl g6)), (q_t_closes, .inl (cI, 36, .inl A_closes))] := hD
      refine lv_goto (tgt := 59) hx hb dX12_tell_41 (by decide) ?_
      refine lv_aload_n hx hb dX12_tell_59 rfl (lv_at hl 0 rfl) ?_
      refine lv_iconst (v := (-1)) hx hb dX12_tell_60 (by decide) ?_
      refine va_put (D := G) (ci := 12) (v := .int (-1 : Int32)) (ty := .int) (C := RX12) (T := TX12) (N := 51) hx hb hts hkX12_tell_X12 tyX12 tyX12_ok nmX12 hown hK hP hD hS 0 rfl rfl 31 (by decide) (hts (.fieldLink RX12 68 "NestReadersModel" "known" "I") hfX12_tell_68) (fun _ h9 => h9) rfl (by decide +kernel) rfl rfl (Nat.le_of_ble_eq_true rfl) dX12_tell_61 (fun H locs hP hD hS => ?_)
      have hP : va_P G vwCl [(q_t, .inr (12, [.ref q_t_states, .ref q_t_markMany, .ref q_t_takes, .ref q_t_puts, .ref q_t_goes, .ref q_t_closes, .int F_bytes, .ref q_t_text, .int F_position, .int F_tokenAt, .long F_token, .int F_digits, .int F_number, .int F_faultAt, .int F_readMany, .ref q_t_read, .int F_size, .ref q_t_row, .ref q_t_partner, .ref q_t_some, .ref q_t_stackCome, .ref q_t_stackSince, .ref q_t_stackLetter, .int F_stacked, .int F_come, .int F_since, .ref q_t_runs, .ref q_t_ways, .ref q_t_keptRuns, .ref q_t_keptWays, .ref q_t_rel, .int (-1 : Int32), .int F_isSpent, .ref q_t_whole, .ref q_t_wholeLong, .int F_wholes, .ref q_t_nodeCome, .ref q_t_nodeSince, .ref q_t_nodeDeep, .ref q_t_nodeLong, .int F_nodes, .int F_places, .ref q_t_wholeMany, .ref q_t_blockTo, .ref q_t_nodeMany, .ref q_t_listCome, .ref q_t_listSince, .int F_listed, .ref q_t_nextCome, .ref q_t_nextSince, .int F_nexts])), (q_t_puts, .inl (cI, 24, .inl A_puts)), (q_t_goes, .inl (cI, 12, .inl g6)), (q_t_closes, .inl (cI, 36, .inl A_closes))] H := hP
      have hD : va_D A [(q_t, .inr (12, [.ref q_t_states, .ref q_t_markMany, .ref q_t_takes, .ref q_t_puts, .ref q_t_goes, .ref q_t_closes, .int F_bytes, .ref q_t_text, .int F_position, .int F_tokenAt, .long F_token, .int F_digits, .int F_number, .int F_faultAt, .int F_readMany, .ref q_t_read, .int F_size, .ref q_t_row, .ref q_t_partner, .ref q_t_some, .ref q_t_stackCome, .ref q_t_stackSince, .ref q_t_stackLetter, .int F_stacked, .int F_come, .int F_since, .ref q_t_runs, .ref q_t_ways, .ref q_t_keptRuns, .ref q_t_keptWays, .ref q_t_rel, .int (-1 : Int32), .int F_isSpent, .ref q_t_whole, .ref q_t_wholeLong, .int F_wholes, .ref q_t_nodeCome, .ref q_t_nodeSince, .ref q_t_nodeDeep, .ref q_t_nodeLong, .int F_nodes, .int F_places, .ref q_t_wholeMany, .ref q_t_blockTo, .ref q_t_nodeMany, .ref q_t_listCome, .ref q_t_listSince, .int F_listed, .ref q_t_nextCome, .ref q_t_nextSince, .int F_nexts])), (q_t_puts, .inl (cI, 24, .inl A_puts)), (q_t_goes, .inl (cI, 12, .inl g6)), (q_t_closes, .inl (cI, 36, .inl A_closes))] := hD
      exact hRet ⟨(-1 : Int32), A_puts, g6, A_closes⟩ H locs _ _ hw hP hD hS dX12_tell_64
  · have hw := hw.2 c1
    refine lv_aload_n hx hb dX12_tell_5 rfl (lv_at hl 0 rfl) ?_
    refine va_get (D := G) (ci := 12) (v := .ref q_t_puts) (C := RX12) (T := TX12) (N := 51) hx hb hts hkX12_tell_X12 hown hK hP 0 rfl rfl 3 (by decide) (hts (.fieldLink RX12 19 "NestReadersModel" "puts" "[I") hfX12_tell_19) (fun _ h9 => h9) rfl dX12_tell_6 ?_
    refine lv_iload_n hx hb dX12_tell_9 rfl (lv_at hl 1 rfl) ?_
    refine lv_iload_n hx hb dX12_tell_10 rfl (lv_at hl 3 rfl) ?_
    refine lv_iload_n hx hb dX12_tell_11 rfl (lv_at hl 2 rfl) ?_
    refine lv_iload hx hb dX12_tell_12 (lv_at hl 4 rfl) ?_
    refine ms_cSi ⟨hx, hb, hml, hown, hts⟩ hK hP hD (c_X12_putAt l G cI cJ cZ p0 p2 p1 p3 hw) gX12_tell_X12_putAt rfl nd_X12_putAt ⟨rfl, rfl⟩ rfl ⟨Nat.le_of_ble_eq_true rfl, Nat.le_of_ble_eq_true rfl⟩ hl.1 (rest := [.ref q_t_puts]) rfl (Nat.le_of_ble_eq_true rfl)  [] rfl rfl dX12_tell_14 (fun r7 hw => ?_)
    refine lv_iload hx hb dX12_tell_17 (lv_at hl 5 rfl) ?_
    refine ms_iast hx hb hK hP hD hS 1 0 rfl rfl hw.1 dX12_tell_19 (fun g8 H locs eg8 hP hD hS => ?_)
    have hw := hw.2 g8 eg8
    have hP : va_P G vwCl [(q_t, .inr (12, [.ref q_t_states, .ref q_t_markMany, .ref q_t_takes, .ref q_t_puts, .ref q_t_goes, .ref q_t_closes, .int F_bytes, .ref q_t_text, .int F_position, .int F_tokenAt, .long F_token, .int F_digits, .int F_number, .int F_faultAt, .int F_readMany, .ref q_t_read, .int F_size, .ref q_t_row, .ref q_t_partner, .ref q_t_some, .ref q_t_stackCome, .ref q_t_stackSince, .ref q_t_stackLetter, .int F_stacked, .int F_come, .int F_since, .ref q_t_runs, .ref q_t_ways, .ref q_t_keptRuns, .ref q_t_keptWays, .ref q_t_rel, .int F_known, .int F_isSpent, .ref q_t_whole, .ref q_t_wholeLong, .int F_wholes, .ref q_t_nodeCome, .ref q_t_nodeSince, .ref q_t_nodeDeep, .ref q_t_nodeLong, .int F_nodes, .int F_places, .ref q_t_wholeMany, .ref q_t_blockTo, .ref q_t_nodeMany, .ref q_t_listCome, .ref q_t_listSince, .int F_listed, .ref q_t_nextCome, .ref q_t_nextSince, .int F_nexts])), (q_t_puts, .inl (cI, 24, .inl g8)), (q_t_goes, .inl (cI, 12, .inl A_goes)), (q_t_closes, .inl (cI, 36, .inl A_closes))] H := hP
    have hD : va_D A [(q_t, .inr (12, [.ref q_t_states, .ref q_t_markMany, .ref q_t_takes, .ref q_t_puts, .ref q_t_goes, .ref q_t_closes, .int F_bytes, .ref q_t_text, .int F_position, .int F_tokenAt, .long F_token, .int F_digits, .int F_number, .int F_faultAt, .int F_readMany, .ref q_t_read, .int F_size, .ref q_t_row, .ref q_t_partner, .ref q_t_some, .ref q_t_stackCome, .ref q_t_stackSince, .ref q_t_stackLetter, .int F_stacked, .int F_come, .int F_since, .ref q_t_runs, .ref q_t_ways, .ref q_t_keptRuns, .ref q_t_keptWays, .ref q_t_rel, .int F_known, .int F_isSpent, .ref q_t_whole, .ref q_t_wholeLong, .int F_wholes, .ref q_t_nodeCome, .ref q_t_nodeSince, .ref q_t_nodeDeep, .ref q_t_nodeLong, .int F_nodes, .int F_places, .ref q_t_wholeMany, .ref q_t_blockTo, .ref q_t_nodeMany, .ref q_t_listCome, .ref q_t_listSince, .int F_listed, .ref q_t_nextCome, .ref q_t_nextSince, .int F_nexts])), (q_t_puts, .inl (cI, 24, .inl g8)), (q_t_goes, .inl (cI, 12, .inl A_goes)), (q_t_closes, .inl (cI, 36, .inl A_closes))] := hD
    refine lv_goto (tgt := 59) hx hb dX12_tell_20 (by decide) ?_
    refine lv_aload_n hx hb dX12_tell_59 rfl (lv_at hl 0 rfl) ?_
    refine lv_iconst (v := (-1)) hx hb dX12_tell_60 (by decide) ?_
    refine va_put (D := G) (ci := 12) (v := .int (-1 : Int32)) (ty := .int) (C := RX12) (T := TX12) (N := 51) hx hb hts hkX12_tell_X12 tyX12 tyX12_ok nmX12 hown hK hP hD hS 0 rfl rfl 31 (by decide) (hts (.fieldLink RX12 68 "NestReadersModel" "known" "I") hfX12_tell_68) (fun _ h9 => h9) rfl (by decide +kernel) rfl rfl (Nat.le_of_ble_eq_true rfl) dX12_tell_61 (fun H locs hP hD hS => ?_)
    have hP : va_P G vwCl [(q_t, .inr (12, [.ref q_t_states, .ref q_t_markMany, .ref q_t_takes, .ref q_t_puts, .ref q_t_goes, .ref q_t_closes, .int F_bytes, .ref q_t_text, .int F_position, .int F_tokenAt, .long F_token, .int F_digits, .int F_number, .int F_faultAt, .int F_readMany, .ref q_t_read, .int F_size, .ref q_t_row, .ref q_t_partner, .ref q_t_some, .ref q_t_stackCome, .ref q_t_stackSince, .ref q_t_stackLetter, .int F_stacked, .int F_come, .int F_since, .ref q_t_runs, .ref q_t_ways, .ref q_t_keptRuns, .ref q_t_keptWays, .ref q_t_rel, .int (-1 : Int32), .int F_isSpent, .ref q_t_whole, .ref q_t_wholeLong, .int F_wholes, .ref q_t_nodeCome, .ref q_t_nodeSince, .ref q_t_nodeDeep, .ref q_t_nodeLong, .int F_nodes, .int F_places, .ref q_t_wholeMany, .ref q_t_blockTo, .ref q_t_nodeMany, .ref q_t_listCome, .ref q_t_listSince, .int F_listed, .ref q_t_nextCome, .ref q_t_nextSince, .int F_nexts])), (q_t_puts, .inl (cI, 24, .inl g8)), (q_t_goes, .inl (cI, 12, .inl A_goes)), (q_t_closes, .inl (cI, 36, .inl A_closes))] H := hP
    have hD : va_D A [(q_t, .inr (12, [.ref q_t_states, .ref q_t_markMany, .ref q_t_takes, .ref q_t_puts, .ref q_t_goes, .ref q_t_closes, .int F_bytes, .ref q_t_text, .int F_position, .int F_tokenAt, .long F_token, .int F_digits, .int F_number, .int F_faultAt, .int F_readMany, .ref q_t_read, .int F_size, .ref q_t_row, .ref q_t_partner, .ref q_t_some, .ref q_t_stackCome, .ref q_t_stackSince, .ref q_t_stackLetter, .int F_stacked, .int F_come, .int F_since, .ref q_t_runs, .ref q_t_ways, .ref q_t_keptRuns, .ref q_t_keptWays, .ref q_t_rel, .int (-1 : Int32), .int F_isSpent, .ref q_t_whole, .ref q_t_wholeLong, .int F_wholes, .ref q_t_nodeCome, .ref q_t_nodeSince, .ref q_t_nodeDeep, .ref q_t_nodeLong, .int F_nodes, .int F_places, .ref q_t_wholeMany, .ref q_t_blockTo, .ref q_t_nodeMany, .ref q_t_listCome, .ref q_t_listSince, .int F_listed, .ref q_t_nextCome, .ref q_t_nextSince, .int F_nexts])), (q_t_puts, .inl (cI, 24, .inl g8)), (q_t_goes, .inl (cI, 12, .inl A_goes)), (q_t_closes, .inl (cI, 36, .inl A_closes))] := hD
    exact hRet ⟨(-1 : Int32), g8, A_goes, A_closes⟩ H locs _ _ hw hP hD hS dX12_tell_64
def wX12_moves_L23 (p0 : Int32) (u10 : Int32) (u11 : Nat → Int32) (E23 : Int32 → Int32 → (Nat → Int32) → (Nat → Int32) → (Nat → Int32) → Prop) (i23_2 : Int32) (F_known_23 : Int32) (A_puts_23 : Nat → Int32) (A_goes_23 : Nat → Int32) (A_closes_23 : Nat → Int32) : Prop :=
  ∀ P23 : Int32 → Int32 → (Nat → Int32) → (Nat → Int32) → (Nat → Int32) → Prop, (∀ (i23_2 : Int32) (F_known_23 : Int32) (A_puts_23 : Nat → Int32) (A_goes_23 : Nat → Int32) (A_closes_23 : Nat → Int32), ((u10 ≤ i23_2 → E23 i23_2 F_known_23 A_puts_23 A_goes_23 A_closes_23) ∧ (¬ u10 ≤ i23_2 → (vp_in ((4 : Int32) * i23_2) 64 ∧ (∀ x15 : Int32, x15 = (u11 ((4 : Int32) * i23_2).toNatClampNeg) → (vp_in (((4 : Int32) * i23_2) + (1 : Int32)) 64 ∧ (∀ x16 : Int32, x16 = (u11 (((4 : Int32) * i23_2) + (1 : Int32)).toNatClampNeg) → (vp_in (((4 : Int32) * i23_2) + (2 : Int32)) 64 ∧ (∀ x17 : Int32, x17 = (u11 (((4 : Int32) * i23_2) + (2 : Int32)).toNatClampNeg) → (wX12_tos p0 x15 x16 x17 A_puts_23 A_goes_23 A_closes_23 (fun r18 => (vp_in (((4 : Int32) * i23_2) + (3 : Int32)) 64 ∧ (wX12_tell p0 x15 x16 x17 (r18 ||| ((1 : Int32) <<< ((u11 (((4 : Int32) * i23_2) + (3 : Int32)).toNatClampNeg) &&& 31))) F_known_23 A_puts_23 A_goes_23 A_closes_23 (fun u19 u20 u21 u22 => (∀ x23 : Int32, x23 = i23_2 + (1 : Int32) → P23 x23 u19 u20 u21 u22)))))))))))))) → P23 i23_2 F_known_23 A_puts_23 A_goes_23 A_closes_23) → P23 i23_2 F_known_23 A_puts_23 A_goes_23 A_closes_23
def wX12_moves (p0 : Int32) (F_bytes : Int32) (F_position : Int32) (F_tokenAt : Int32) (F_token : Int64) (F_digits : Int32) (F_number : Int32) (F_faultAt : Int32) (F_readMany : Int32) (F_known : Int32) (A_states : Nat → Int32) (A_markMany : Nat → Int32) (A_puts : Nat → Int32) (A_goes : Nat → Int32) (A_closes : Nat → Int32) (A_text : Nat → Int32) (A_read : Nat → Int32) (K : Int32 → Int32 → Int32 → Int32 → Int64 → Int32 → Int32 → Int32 → Int32 → Int32 → (Nat → Int32) → (Nat → Int32) → (Nat → Int32) → (Nat → Int32) → Prop) : Prop :=
  (wX12_isReader p0 (fun r1 => ((r1 = (0 : Int32) → K (-2 : Int32) F_bytes F_position F_tokenAt F_token F_digits F_number F_faultAt F_readMany F_known A_puts A_goes A_closes A_read) ∧ (¬ r1 = (0 : Int32) → (wX12_isRead p0 F_bytes F_position F_tokenAt F_token F_digits F_number F_faultAt F_readMany A_states A_markMany A_text A_read (fun r3 u4 u5 u6 u7 u8 u9 u10 u11 => ((r3 = (0 : Int32) → K (-4 : Int32) F_bytes u4 u5 u6 u7 u8 u9 u10 F_known A_puts A_goes A_closes u11) ∧ (¬ r3 = (0 : Int32) → (wX12_moves_L23 p0 u10 u11 (fun i23_2 F_known_23 A_puts_23 A_goes_23 A_closes_23 => (wX12_movesOf p0 A_puts_23 A_goes_23 A_closes_23 (fun r14 => K r14 (0 : Int32) u4 u5 u6 u7 u8 u9 u10 F_known_23 A_puts_23 A_goes_23 A_closes_23 u11))) (0 : Int32) F_known A_puts A_goes A_closes)))))))))
abbrev rmX12_moves : Room := { frames := 5, cells := 0, slots := 0, locals := 109 }
theorem nd_X12_moves : yX12_moves.cls = RX12 ∧ yX12_moves.cls ≠ "java/lang/invoke/MethodHandle" ∧ yX12_moves.cls ≠ "java/lang/invoke/VarHandle" ∧ (parseMethodDescriptor yX12_moves.desc).map (fun d => d.parameters.length) = some 1 := by decide +kernel
theorem hkX12_moves_X12 : ∀ w ∈ u_ws RX12 TX12 51, w ∈ wsX12_moves := fun w h => List.mem_cons_of_mem _ (inlX12 w h)
theorem hfX12_moves_181 : (Cond.fieldLink RX12 181 "NestReadersModel" "readMany" "I") ∈ wsX12_moves := List.mem_cons_of_mem _ m18_5
theorem hfX12_moves_120 : (Cond.fieldLink RX12 120 "NestReadersModel" "bytes" "I") ∈ wsX12_moves := List.mem_cons_of_mem _ m11_23
theorem hfX12_moves_31 : (Cond.fieldLink RX12 31 "NestReadersModel" "read" "[I") ∈ wsX12_moves := List.mem_cons_of_mem _ m9_3
set_option maxHeartbeats 4000000 in
set_option maxRecDepth 100000 in
theorem c_X12_moves (l : Launch) (G : va_G) (cI cJ cZ : ClassId) (q_t q_t_states q_t_markMany q_t_takes q_t_puts q_t_goes q_t_closes q_t_text q_t_read q_t_row q_t_partner q_t_some q_t_stackCome q_t_stackSince q_t_stackLetter q_t_runs q_t_ways q_t_keptRuns q_t_keptWays q_t_rel q_t_whole q_t_wholeLong q_t_nodeCome q_t_nodeSince q_t_nodeDeep q_t_nodeLong q_t_wholeMany q_t_blockTo q_t_nodeMany q_t_listCome q_t_listSince q_t_nextCome q_t_nextSince : Nat) (sz : Nat) (F_bytes : Int32) (F_position : Int32) (F_tokenAt : Int32) (F_token : Int64) (F_digits : Int32) (F_number : Int32) (F_faultAt : Int32) (F_readMany : Int32) (F_size : Int32) (F_stacked : Int32) (F_come : Int32) (F_since : Int32) (F_known : Int32) (F_isSpent : Int32) (F_wholes : Int32) (F_nodes : Int32) (F_places : Int32) (F_listed : Int32) (F_nexts : Int32) (A_states : Nat → Int32) (A_markMany : Nat → Int32) (A_puts : Nat → Int32) (A_goes : Nat → Int32) (A_closes : Nat → Int32) (A_text : Nat → Int32) (A_read : Nat → Int32) (p0 : Int32) {K : Int32 → Int32 → Int32 → Int32 → Int64 → Int32 → Int32 → Int32 → Int32 → Int32 → (Nat → Int32) → (Nat → Int32) → (Nat → Int32) → (Nat → Int32) → Prop} (hw : wX12_moves p0 F_bytes F_position F_tokenAt F_token F_digits F_number F_faultAt F_readMany F_known A_states A_markMany A_puts A_goes A_closes A_text A_read K) : Met l yX12_moves wsX12_moves rmX12_moves (ms_Pz G (ms_T cI cJ cZ) [(q_t, .inr (12, [.ref q_t_states, .ref q_t_markMany, .ref q_t_takes, .ref q_t_puts, .ref q_t_goes, .ref q_t_closes, .int F_bytes, .ref q_t_text, .int F_position, .int F_tokenAt, .long F_token, .int F_digits, .int F_number, .int F_faultAt, .int F_readMany, .ref q_t_read, .int F_size, .ref q_t_row, .ref q_t_partner, .ref q_t_some, .ref q_t_stackCome, .ref q_t_stackSince, .ref q_t_stackLetter, .int F_stacked, .int F_come, .int F_since, .ref q_t_runs, .ref q_t_ways, .ref q_t_keptRuns, .ref q_t_keptWays, .ref q_t_rel, .int F_known, .int F_isSpent, .ref q_t_whole, .ref q_t_wholeLong, .int F_wholes, .ref q_t_nodeCome, .ref q_t_nodeSince, .ref q_t_nodeDeep, .ref q_t_nodeLong, .int F_nodes, .int F_places, .ref q_t_wholeMany, .ref q_t_blockTo, .ref q_t_nodeMany, .ref q_t_listCome, .ref q_t_listSince, .int F_listed, .ref q_t_nextCome, .ref q_t_nextSince, .int F_nexts])), (q_t_states, .inl (cI, 2, .inl A_states)), (q_t_markMany, .inl (cI, 2, .inl A_markMany)), (q_t_puts, .inl (cI, 24, .inl A_puts)), (q_t_goes, .inl (cI, 12, .inl A_goes)), (q_t_closes, .inl (cI, 36, .inl A_closes)), (q_t_text, .inl (cI, 160, .inl A_text)), (q_t_read, .inl (cI, 64, .inl A_read))] sz [.ref q_t, .int p0]) (ms_Wi G (ms_T cI cJ cZ) (fun (r : Int32) (u : Int32 × Int32 × Int32 × Int64 × Int32 × Int32 × Int32 × Int32 × Int32 × (Nat → Int32) × (Nat → Int32) × (Nat → Int32) × (Nat → Int32)) => K r u.1 u.2.1 u.2.2.1 u.2.2.2.1 u.2.2.2.2.1 u.2.2.2.2.2.1 u.2.2.2.2.2.2.1 u.2.2.2.2.2.2.2.1 u.2.2.2.2.2.2.2.2.1 u.2.2.2.2.2.2.2.2.2.1 u.2.2.2.2.2.2.2.2.2.2.1 u.2.2.2.2.2.2.2.2.2.2.2.1 u.2.2.2.2.2.2.2.2.2.2.2.2) (fun u : Int32 × Int32 × Int32 × Int64 × Int32 × Int32 × Int32 × Int32 × Int32 × (Nat → Int32) × (Nat → Int32) × (Nat → Int32) × (Nat → Int32) => [(q_t, .inr (12, [.ref q_t_states, .ref q_t_markMany, .ref q_t_takes, .ref q_t_puts, .ref q_t_goes, .ref q_t_closes, .int u.1, .ref q_t_text, .int u.2.1, .int u.2.2.1, .long u.2.2.2.1, .int u.2.2.2.2.1, .int u.2.2.2.2.2.1, .int u.2.2.2.2.2.2.1, .int u.2.2.2.2.2.2.2.1, .ref q_t_read, .int F_size, .ref q_t_row, .ref q_t_partner, .ref q_t_some, .ref q_t_stackCome, .ref q_t_stackSince, .ref q_t_stackLetter, .int F_stacked, .int F_come, .int F_since, .ref q_t_runs, .ref q_t_ways, .ref q_t_keptRuns, .ref q_t_keptWays, .ref q_t_rel, .int u.2.2.2.2.2.2.2.2.1, .int F_isSpent, .ref q_t_whole, .ref q_t_wholeLong, .int F_wholes, .ref q_t_nodeCome, .ref q_t_nodeSince, .ref q_t_nodeDeep, .ref q_t_nodeLong, .int F_nodes, .int F_places, .ref q_t_wholeMany, .ref q_t_blockTo, .ref q_t_nodeMany, .ref q_t_listCome, .ref q_t_listSince, .int F_listed, .ref q_t_nextCome, .ref q_t_nextSince, .int F_nexts])), (q_t_states, .inl (cI, 2, .inl A_states)), (q_t_markMany, .inl (cI, 2, .inl A_markMany)), (q_t_puts, .inl (cI, 24, .inl u.2.2.2.2.2.2.2.2.2.1)), (q_t_goes, .inl (cI, 12, .inl u.2.2.2.2.2.2.2.2.2.2.1)), (q_t_closes, .inl (cI, 36, .inl u.2.2.2.2.2.2.2.2.2.2.2.1)), (q_t_text, .inl (cI, 160, .inl A_text)), (q_t_read, .inl (cI, 64, .inl u.2.2.2.2.2.2.2.2.2.2.2.2))]) (va_A [(q_t, .inr (12, [.ref q_t_states, .ref q_t_markMany, .ref q_t_takes, .ref q_t_puts, .ref q_t_goes, .ref q_t_closes, .int F_bytes, .ref q_t_text, .int F_position, .int F_tokenAt, .long F_token, .int F_digits, .int F_number, .int F_faultAt, .int F_readMany, .ref q_t_read, .int F_size, .ref q_t_row, .ref q_t_partner, .ref q_t_some, .ref q_t_stackCome, .ref q_t_stackSince, .ref q_t_stackLetter, .int F_stacked, .int F_come, .int F_since, .ref q_t_runs, .ref q_t_ways, .ref q_t_keptRuns, .ref q_t_keptWays, .ref q_t_rel, .int F_known, .int F_isSpent, .ref q_t_whole, .ref q_t_wholeLong, .int F_wholes, .ref q_t_nodeCome, .ref q_t_nodeSince, .ref q_t_nodeDeep, .ref q_t_nodeLong, .int F_nodes, .int F_places, .ref q_t_wholeMany, .ref q_t_blockTo, .ref q_t_nodeMany, .ref q_t_listCome, .ref q_t_listSince, .int F_listed, .ref q_t_nextCome, .ref q_t_nextSince, .int F_nexts])), (q_t_states, .inl (cI, 2, .inl A_states)), (q_t_markMany, .inl (cI, 2, .inl A_markMany)), (q_t_puts, .inl (cI, 24, .inl A_puts)), (q_t_goes, .inl (cI, 12, .inl A_goes)), (q_t_closes, .inl (cI, 36, .inl A_closes)), (q_t_text, .inl (cI, 160, .inl A_text)), (q_t_read, .inl (cI, 64, .inl A_read))] sz)) 0 0 (va_A [(q_t, .inr (12, [.ref q_t_states, .ref q_t_markMany, .ref q_t_takes, .ref q_t_puts, .ref q_t_goes, .ref q_t_closes, .int F_bytes, .ref q_t_text, .int F_position, .int F_tokenAt, .long F_token, .int F_digits, .int F_number, .int F_faultAt, .int F_readMany, .ref q_t_read, .int F_size, .ref q_t_row, .ref q_t_partner, .ref q_t_some, .ref q_t_stackCome, .ref q_t_stackSince, .ref q_t_stackLetter, .int F_stacked, .int F_come, .int F_since, .ref q_t_runs, .ref q_t_ways, .ref q_t_keptRuns, .ref q_t_keptWays, .ref q_t_rel, .int F_known, .int F_isSpent, .ref q_t_whole, .ref q_t_wholeLong, .int F_wholes, .ref q_t_nodeCome, .ref q_t_nodeSince, .ref q_t_nodeDeep, .ref q_t_nodeLong, .int F_nodes, .int F_places, .ref q_t_wholeMany, .ref q_t_blockTo, .ref q_t_nodeMany, .ref q_t_listCome, .ref q_t_listSince, .int F_listed, .ref q_t_nextCome, .ref q_t_nextSince, .int F_nexts])), (q_t_states, .inl (cI, 2, .inl A_states)), (q_t_markMany, .inl (cI, 2, .inl A_markMany)), (q_t_puts, .inl (cI, 24, .inl A_puts)), (q_t_goes, .inl (cI, 12, .inl A_goes)), (q_t_closes, .inl (cI, 36, .inl A_closes)), (q_t_text, .inl (cI, 160, .inl A_text)), (q_t_read, .inl (cI, 64, .inl A_read))] sz) := by
  refine ms_ti (cc := cX12_moves) (maxL := 6) (ty := .int) (by decide) rfl (Nat.le_of_ble_eq_true rfl) ?_
  intro p e s m args below meth c Q A hx hb hml hown hts hK hP hD hS hA hRet ls hl
  have hl : lv_has ls 6 [(0, .ref q_t), (1, .int p0)] := hl
  have hown : s.vm.findClass RX12 = some m.cls := hown
  refine lv_iload_n hx hb dX12_moves_0 rfl (lv_at hl 1 rfl) ?_
  refine ms_cSi ⟨hx, hb, hml, hown, hts⟩ hK hP hD (c_X12_isReader l G cI cJ cZ p0 hw) gX12_moves_X12_isReader rfl nd_X12_isReader ⟨rfl, rfl⟩ rfl ⟨Nat.le_of_ble_eq_true rfl, Nat.le_of_ble_eq_true rfl⟩ hl.1 (rest := []) rfl (Nat.le_of_ble_eq_true rfl)  [] rfl rfl dX12_moves_1 (fun r1 hw => ?_)
  have zzr1 := hw.1
  have hw := hw.2
  refine lv_if_ne (tgt := 10) hx hb dX12_moves_4 (by decide) (fun c2 => ?_) (fun c2 => ?_)
  · have hw := hw.2 c2
    refine lv_aload_n hx hb dX12_moves_10 rfl (lv_at hl 0 rfl) ?_
    refine lv_iload_n hx hb dX12_moves_11 rfl (lv_at hl 1 rfl) ?_
    refine ms_mVi (wr := [(q_t_puts, .inl (cI, 24, .inl A_puts)), (q_t_goes, .inl (cI, 12, .inl A_goes)), (q_t_closes, .inl (cI, 36, .inl A_closes))]) ⟨hx, hb, hml, hown, hts⟩ hK hP hD (c_X12_isRead l G cI cJ cZ q_t q_t_states q_t_markMany q_t_takes q_t_puts q_t_goes q_t_closes q_t_text q_t_read q_t_row q_t_partner q_t_some q_t_stackCome q_t_stackSince q_t_stackLetter q_t_runs q_t_ways q_t_keptRuns q_t_keptWays q_t_rel q_t_whole q_t_wholeLong q_t_nodeCome q_t_nodeSince q_t_nodeDeep q_t_nodeLong q_t_wholeMany q_t_blockTo q_t_nodeMany q_t_listCome q_t_listSince q_t_nextCome q_t_nextSince s.heap.size F_bytes F_position F_tokenAt F_token F_digits F_number F_faultAt F_readMany F_size F_stacked F_come F_since F_known F_isSpent F_wholes F_nodes F_places F_listed F_nexts A_states A_markMany A_text A_read p0 hw) gX12_moves_X12_isRead rfl nd_X12_isRead (ci := 12) rfl rfl rfl ⟨rfl, rfl⟩ rfl ⟨Nat.le_of_ble_eq_true rfl, Nat.le_of_ble_eq_true rfl⟩ hl.1 (rest := []) rfl (Nat.le_of_ble_eq_true rfl)  hS hA [0, 1, 2, 6, 7] [3, 4, 5] rfl rfl rfl (by decide) rfl dX12_moves_12 (fun r3 u H locs hw hP hD hS => ?_)
    obtain ⟨u4, u5, u6, u7, u8, u9, u10, u11⟩ := u
    have zzr3 := hw.1
    have hw := hw.2
    obtain ⟨hP, hD⟩ : ms_PD G A [(q_t, .inr (12, [.ref q_t_states, .ref q_t_markMany, .ref q_t_takes, .ref q_t_puts, .ref q_t_goes, .ref q_t_closes, .int F_bytes, .ref q_t_text, .int u4, .int u5, .long u6, .int u7, .int u8, .int u9, .int u10, .ref q_t_read, .int F_size, .ref q_t_row, .ref q_t_partner, .ref q_t_some, .ref q_t_stackCome, .ref q_t_stackSince, .ref q_t_stackLetter, .int F_stacked, .int F_come, .int F_since, .ref q_t_runs, .ref q_t_ways, .ref q_t_keptRuns, .ref q_t_keptWays, .ref q_t_rel, .int F_known, .int F_isSpent, .ref q_t_whole, .ref q_t_wholeLong, .int F_wholes, .ref q_t_nodeCome, .ref q_t_nodeSince, .ref q_t_nodeDeep, .ref q_t_nodeLong, .int F_nodes, .int F_places, .ref q_t_wholeMany, .ref q_t_blockTo, .ref q_t_nodeMany, .ref q_t_listCome, .ref q_t_listSince, .int F_listed, .ref q_t_nextCome, .ref q_t_nextSince, .int F_nexts])), (q_t_states, .inl (cI, 2, .inl A_states)), (q_t_markMany, .inl (cI, 2, .inl A_markMany)), (q_t_puts, .inl (cI, 24, .inl A_puts)), (q_t_goes, .inl (cI, 12, .inl A_goes)), (q_t_closes, .inl (cI, 36, .inl A_closes)), (q_t_text, .inl (cI, 160, .inl A_text)), (q_t_read, .inl (cI, 64, .inl u11))] H := ms_PDsub hP hD [3, 4, 5, 0, 1, 2, 6, 7] (by decide +kernel) rfl
    refine lv_if_ne (tgt := 21) hx hb dX12_moves_15 (by decide) (fun c12 => ?_) (fun c12 => ?_)
    · have hw := hw.2 c12
      refine lv_iconst (v := 0) hx hb dX12_moves_21 (by decide) ?_
      refine lv_istore_n (lv' := [(2, .int (0 : Int32)), (0, .ref q_t), (1, .int p0)]) hx hb dX12_moves_22 rfl hl (by decide) rfl (fun ls hl => ?_)
      refine hw (fun i23_2 F_known_23 A_puts_23 A_goes_23 A_closes_23 => ∀ (H : Heap) (locs : List Loc), va_P G vwCl [(q_t, .inr (12, [.ref q_t_states, .ref q_t_markMany, .ref q_t_takes, .ref q_t_puts, .ref q_t_goes, .ref q_t_closes, .int F_bytes, .ref q_t_text, .int u4, .int u5, .long u6, .int u7, .int u8, .int u9, .int u10, .ref q_t_read, .int F_size, .ref q_t_row, .ref q_t_partner, .ref q_t_some, .ref q_t_stackCome, .ref q_t_stackSince, .ref q_t_stackLetter, .int F_stacked, .int F_come, .int F_since, .ref q_t_runs, .ref q_t_ways, .ref q_t_keptRuns, .ref q_t_keptWays, .ref q_t_rel, .int F_known_23, .int F_isSpent, .ref q_t_whole, .ref q_t_wholeLong, .int F_wholes, .ref q_t_nodeCome, .ref q_t_nodeSince, .ref q_t_nodeDeep, .ref q_t_nodeLong, .int F_nodes, .int F_places, .ref q_t_wholeMany, .ref q_t_blockTo, .ref q_t_nodeMany, .ref q_t_listCome, .ref q_t_listSince, .int F_listed, .ref q_t_nextCome, .ref q_t_nextSince, .int F_nexts])), (q_t_states, .inl (cI, 2, .inl A_states)), (q_t_markMany, .inl (cI, 2, .inl A_markMany)), (q_t_puts, .inl (cI, 24, .inl A_puts_23)), (q_t_goes, .inl (cI, 12, .inl A_goes_23)), (q_t_closes, .inl (cI, 36, .inl A_closes_23)), (q_t_text, .inl (cI, 160, .inl A_text)), (q_t_read, .inl (cI, 64, .inl u11))] H → va_D A [(q_t, .inr (12, [.ref q_t_states, .ref q_t_markMany, .ref q_t_takes, .ref q_t_puts, .ref q_t_goes, .ref q_t_closes, .int F_bytes, .ref q_t_text, .int u4, .int u5, .long u6, .int u7, .int u8, .int u9, .int u10, .ref q_t_read, .int F_size, .ref q_t_row, .ref q_t_partner, .ref q_t_some, .ref q_t_stackCome, .ref q_t_stackSince, .ref q_t_stackLetter, .int F_stacked, .int F_come, .int F_since, .ref q_t_runs, .ref q_t_ways, .ref q_t_keptRuns, .ref q_t_keptWays, .ref q_t_rel, .int F_known_23, .int F_isSpent, .ref q_t_whole, .ref q_t_wholeLong, .int F_wholes, .ref q_t_nodeCome, .ref q_t_nodeSince, .ref q_t_nodeDeep, .ref q_t_nodeLong, .int F_nodes, .int F_places, .ref q_t_wholeMany, .ref q_t_blockTo, .ref q_t_nodeMany, .ref q_t_listCome, .ref q_t_listSince, .int F_listed, .ref q_t_nextCome, .ref q_t_nextSince, .int F_nexts])), (q_t_states, .inl (cI, 2, .inl A_states)), (q_t_markMany, .inl (cI, 2, .inl A_markMany)), (q_t_puts, .inl (cI, 24, .inl A_puts_23)), (q_t_goes, .inl (cI, 12, .inl A_goes_23)), (q_t_closes, .inl (cI, 36, .inl A_closes_23)), (q_t_text, .inl (cI, 160, .inl A_text)), (q_t_read, .inl (cI, 64, .inl u11))] → va_S A s.heap H locs → ∀ ls : Array Slot, lv_has ls 6 [(0, .ref q_t), (1, .int p0), (2, .int i23_2)] → W p l e rmX12_moves s m args below meth c H locs 0 0 Q (F0 m 23 ls [])) (fun i23_2 F_known_23 A_puts_23 A_goes_23 A_closes_23 hw H locs hP hD hS ls hl => ?_) H locs hP hD hS ls (lv_sub hl [1, 2, 0] rfl)
      refine lv_iload_n hx hb dX12_moves_23 rfl (lv_at hl 2 rfl) ?_
      refine lv_aload_n hx hb dX12_moves_24 rfl (lv_at hl 0 rfl) ?_
      refine va_get (D := G) (ci := 12) (v := .int u10) (C := RX12) (T := TX12) (N := 51) hx hb hts hkX12_moves_X12 hown hK hP 0 rfl rfl 14 (by decide) (hts (.fieldLink RX12 181 "NestReadersModel" "readMany" "I") hfX12_moves_181) (fun _ h9 => h9) rfl dX12_moves_25 ?_
      refine lv_icmp_ge (tgt := 103) hx hb dX12_moves_28 (by decide) (fun c13 => ?_) (fun c13 => ?_)
      · have hw := hw.1 c13
        refine lv_aload_n hx hb dX12_moves_103 rfl (lv_at hl 0 rfl) ?_
        refine lv_iconst (v := 0) hx hb dX12_moves_104 (by decide) ?_
        refine va_put (D := G) (ci := 12) (v := .int (0 : Int32)) (ty := .int) (C := RX12) (T := TX12) (N := 51) hx hb hts hkX12_moves_X12 tyX12 tyX12_ok nmX12 hown hK hP hD hS 0 rfl rfl 6 (by decide) (hts (.fieldLink RX12 120 "NestReadersModel" "bytes" "I") hfX12_moves_120) (fun _ h9 => h9) rfl (by decide +kernel) rfl rfl (Nat.le_of_ble_eq_true rfl) dX12_moves_105 (fun H locs hP hD hS => ?_)
        have hP : va_P G vwCl [(q_t, .inr (12, [.ref q_t_states, .ref q_t_markMany, .ref q_t_takes, .ref q_t_puts, .ref q_t_goes, .ref q_t_closes, .int (0 : Int32), .ref q_t_text, .int u4, .int u5, .long u6, .int u7, .int u8, .int u9, .int u10, .ref q_t_read, .int F_size, .ref q_t_row, .ref q_t_partner, .ref q_t_some, .ref q_t_stackCome, .ref q_t_stackSince, .ref q_t_stackLetter, .int F_stacked, .int F_come, .int F_since, .ref q_t_runs, .ref q_t_ways, .ref q_t_keptRuns, .ref q_t_keptWays, .ref q_t_rel, .int F_known_23, .int F_isSpent, .ref q_t_whole, .ref q_t_wholeLong, .int F_wholes, .ref q_t_nodeCome, .ref q_t_nodeSince, .ref q_t_nodeDeep, .ref q_t_nodeLong, .int F_nodes, .int F_places, .ref q_t_wholeMany, .ref q_t_blockTo, .ref q_t_nodeMany, .ref q_t_listCome, .ref q_t_listSince, .int F_listed, .ref q_t_nextCome, .ref q_t_nextSince, .int F_nexts])), (q_t_states, .inl (cI, 2, .inl A_states)), (q_t_markMany, .inl (cI, 2, .inl A_markMany)), (q_t_puts, .inl (cI, 24, .inl A_puts_23)), (q_t_goes, .inl (cI, 12, .inl A_goes_23)), (q_t_closes, .inl (cI, 36, .inl A_closes_23)), (q_t_text, .inl (cI, 160, .inl A_text)), (q_t_read, .inl (cI, 64, .inl u11))] H := hP
        have hD : va_D A [(q_t, .inr (12, [.ref q_t_states, .ref q_t_markMany, .ref q_t_takes, .ref q_t_puts, .ref q_t_goes, .ref q_t_closes, .int (0 : Int32), .ref q_t_text, .int u4, .int u5, .long u6, .int u7, .int u8, .int u9, .int u10, .ref q_t_read, .int F_size, .ref q_t_row, .ref q_t_partner, .ref q_t_some, .ref q_t_stackCome, .ref q_t_stackSince, .ref q_t_stackLetter, .int F_stacked, .int F_come, .int F_since, .ref q_t_runs, .ref q_t_ways, .ref q_t_keptRuns, .ref q_t_keptWays, .ref q_t_rel, .int F_known_23, .int F_isSpent, .ref q_t_whole, .ref q_t_wholeLong, .int F_wholes, .ref q_t_nodeCome, .ref q_t_nodeSince, .ref q_t_nodeDeep, .ref q_t_nodeLong, .int F_nodes, .int F_places, .ref q_t_wholeMany, .ref q_t_blockTo, .ref q_t_nodeMany, .ref q_t_listCome, .ref q_t_listSince, .int F_listed, .ref q_t_nextCome, .ref q_t_nextSince, .int F_nexts])), (q_t_states, .inl (cI, 2, .inl A_states)), (q_t_markMany, .inl (cI, 2, .inl A_markMany)), (q_t_puts, .inl (cI, 24, .inl A_puts_23)), (q_t_goes, .inl (cI, 12, .inl A_goes_23)), (q_t_closes, .inl (cI, 36, .inl A_closes_23)), (q_t_text, .inl (cI, 160, .inl A_text)), (q_t_read, .inl (cI, 64, .inl u11))] := hD
        refine lv_aload_n hx hb dX12_moves_108 rfl (lv_at hl 0 rfl) ?_
        refine lv_iload_n hx hb dX12_moves_109 rfl (lv_at hl 1 rfl) ?_
        refine ms_cVi ⟨hx, hb, hml, hown, hts⟩ hK hP hD (c_X12_movesOf l G cI cJ cZ q_t q_t_states q_t_markMany q_t_takes q_t_puts q_t_goes q_t_closes q_t_text q_t_read q_t_row q_t_partner q_t_some q_t_stackCome q_t_stackSince q_t_stackLetter q_t_runs q_t_ways q_t_keptRuns q_t_keptWays q_t_rel q_t_whole q_t_wholeLong q_t_nodeCome q_t_nodeSince q_t_nodeDeep q_t_nodeLong q_t_wholeMany q_t_blockTo q_t_nodeMany q_t_listCome q_t_listSince q_t_nextCome q_t_nextSince (0 : Int32) u4 u5 u6 u7 u8 u9 u10 F_size F_stacked F_come F_since F_known_23 F_isSpent F_wholes F_nodes F_places F_listed F_nexts A_puts_23 A_goes_23 A_closes_23 p0 hw) gX12_moves_X12_movesOf rfl nd_X12_movesOf (ci := 12) rfl rfl rfl ⟨rfl, rfl⟩ rfl ⟨Nat.le_of_ble_eq_true rfl, Nat.le_of_ble_eq_true rfl⟩ hl.1 (rest := []) rfl (Nat.le_of_ble_eq_true rfl)  [0, 3, 4, 5] rfl rfl dX12_moves_110 (fun r14 hw => ?_)
        exact hRet r14 ⟨(0 : Int32), u4, u5, u6, u7, u8, u9, u10, F_known_23, A_puts_23, A_goes_23, A_closes_23, u11⟩ H locs _ _ hw (vp_nar_int _) hP hD hS dX12_moves_113
      · have hw := hw.2 c13
        refine lv_aload_n hx hb dX12_moves_31 rfl (lv_at hl 0 rfl) ?_
        refine va_get (D := G) (ci := 12) (v := .ref q_t_read) (C := RX12) (T := TX12) (N := 51) hx hb hts hkX12_moves_X12 hown hK hP 0 rfl rfl 15 (by decide) (hts (.fieldLink RX12 31 "NestReadersModel" "read" "[I") hfX12_moves_31) (fun _ h9 => h9) rfl dX12_moves_32 ?_
        refine lv_iconst (v := 4) hx hb dX12_moves_35 (by decide) ?_
        refine lv_iload_n hx hb dX12_moves_36 rfl (lv_at hl 2 rfl) ?_
        refine lv_imul hx hb dX12_moves_37 ?_
        refine va_iald (D := G) hx hb hK hP 7 0 rfl rfl hw.1 dX12_moves_38 ?_
        have hw := hw.2
        refine lv_topi (fun x15 ex15 => ?_)
        have hw := hw x15 ex15
        refine lv_istore_n (lv' := [(3, .int x15), (0, .ref q_t), (1, .int p0), (2, .int i23_2)]) hx hb dX12_moves_39 rfl hl (by decide) rfl (fun ls hl => ?_)
        refine lv_aload_n hx hb dX12_moves_40 rfl (lv_at hl 1 rfl) ?_
        refine va_get (D := G) (ci := 12) (v := .ref q_t_read) (C := RX12) (T := TX12) (N := 51) hx hb hts hkX12_moves_X12 hown hK hP 0 rfl rfl 15 (by decide) (hts (.fieldLink RX12 31 "NestReadersModel" "read" "[I") hfX12_moves_31) (fun _ h9 => h9) rfl dX12_moves_41 ?_
        refine lv_iconst (v := 4) hx hb dX12_moves_44 (by decide) ?_
        refine lv_iload_n hx hb dX12_moves_45 rfl (lv_at hl 3 rfl) ?_
        refine lv_imul hx hb dX12_moves_46 ?_
        refine lv_iconst (v := 1) hx hb dX12_moves_47 (by decide) ?_
        refine lv_iadd hx hb dX12_moves_48 ?_
        refine va_iald (D := G) hx hb hK hP 7 0 rfl rfl hw.1 dX12_moves_49 ?_
        have hw := hw.2
        refine lv_topi (fun x16 ex16 => ?_)
        have hw := hw x16 ex16
        refine lv_istore (lv' := [(4, .int x16), (3, .int x15), (0, .ref q_t), (1, .int p0), (2, .int i23_2)]) hx hb dX12_moves_50 hl (by decide) rfl (fun ls hl => ?_)
        refine lv_aload_n hx hb dX12_moves_52 rfl (lv_at hl 2 rfl) ?_
        refine va_get (D := G) (ci := 12) (v := .ref q_t_read) (C := RX12) (T := TX12) (N := 51) hx hb hts hkX12_moves_X12 hown hK hP 0 rfl rfl 15 (by decide) (hts (.fieldLink RX12 31 "NestReadersModel" "read" "[I") hfX12_moves_31) (fun _ h9 => h9) rfl dX12_moves_53 ?_
        refine lv_iconst (v := 4) hx hb dX12_moves_56 (by decide) ?_
        refine lv_iload_n hx hb dX12_moves_57 rfl (lv_at hl 4 rfl) ?_
        refine lv_imul hx hb dX12_moves_58 ?_
        refine lv_iconst (v := 2) hx hb dX12_moves_59 (by decide) ?_
        refine lv_iadd hx hb dX12_moves_60 ?_
        refine va_iald (D := G) hx hb hK hP 7 0 rfl rfl hw.1 dX12_moves_61 ?_
        have hw := hw.2
        refine lv_topi (fun x17 ex17 => ?_)
        have hw := hw x17 ex17
        refine lv_istore (lv' := [(5, .int x17), (4, .int x16), (3, .int x15), (0, .ref q_t), (1, .int p0), (2, .int i23_2)]) hx hb dX12_moves_62 hl (by decide) rfl (fun ls hl => ?_)
        refine lv_aload_n hx hb dX12_moves_64 rfl (lv_at hl 3 rfl) ?_
        refine lv_iload_n hx hb dX12_moves_65 rfl (lv_at hl 4 rfl) ?_
        refine lv_iload_n hx hb dX12_moves_66 rfl (lv_at hl 2 rfl) ?_
        refine lv_iload hx hb dX12_moves_67 (lv_at hl 1 rfl) ?_
        refine lv_iload hx hb dX12_moves_69 (lv_at hl 0 rfl) ?_
        refine lv_aload_n hx hb dX12_moves_71 rfl (lv_at hl 3 rfl) ?_
        refine lv_iload_n hx hb dX12_moves_72 rfl (lv_at hl 4 rfl) ?_
        refine lv_iload_n hx hb dX12_moves_73 rfl (lv_at hl 2 rfl) ?_
        refine lv_iload hx hb dX12_moves_74 (lv_at hl 1 rfl) ?_
        refine lv_iload hx hb dX12_moves_76 (lv_at hl 0 rfl) ?_
        refine ms_cVi ⟨hx, hb, hml, hown, hts⟩ hK hP hD (c_X12_tos l G cI cJ cZ q_t q_t_states q_t_markMany q_t_takes q_t_puts q_t_goes q_t_closes q_t_text q_t_read q_t_row q_t_partner q_t_some q_t_stackCome q_t_stackSince q_t_stackLetter q_t_runs q_t_ways q_t_keptRuns q_t_keptWays q_t_rel q_t_whole q_t_wholeLong q_t_nodeCome q_t_nodeSince q_t_nodeDeep q_t_nodeLong q_t_wholeMany q_t_blockTo q_t_nodeMany q_t_listCome q_t_listSince q_t_nextCome q_t_nextSince F_bytes u4 u5 u6 u7 u8 u9 u10 F_size F_stacked F_come F_since F_known_23 F_isSpent F_wholes F_nodes F_places F_listed F_nexts A_puts_23 A_goes_23 A_closes_23 p0 x15 x16 x17 hw) gX12_moves_X12_tos rfl nd_X12_tos (ci := 12) rfl rfl rfl ⟨rfl, rfl⟩ rfl ⟨Nat.le_of_ble_eq_true rfl, Nat.le_of_ble_eq_true rfl⟩ hl.1 (rest := [.int x17, .int x16, .int x15, .int p0, .ref q_t]) rfl (Nat.le_of_ble_eq_true rfl)  [0, 3, 4, 5] rfl rfl dX12_moves_78 (fun r18 hw => ?_)
        refine lv_iconst (v := 1) hx hb dX12_moves_81 (by decide) ?_
        refine lv_aload_n hx hb dX12_moves_82 rfl (lv_at hl 3 rfl) ?_
        refine va_get (D := G) (ci := 12) (v := .ref q_t_read) (C := RX12) (T := TX12) (N := 51) hx hb hts hkX12_moves_X12 hown hK hP 0 rfl rfl 15 (by decide) (hts (.fieldLink RX12 31 "NestReadersModel" "read" "[I") hfX12_moves_31) (fun _ h9 => h9) rfl dX12_moves_83 ?_
        refine lv_iconst (v := 4) hx hb dX12_moves_86 (by decide) ?_
        refine lv_iload_n hx hb dX12_moves_87 rfl (lv_at hl 5 rfl) ?_
        refine lv_imul hx hb dX12_moves_88 ?_
        refine lv_iconst (v := 3) hx hb dX12_moves_89 (by decide) ?_
        refine lv_iadd hx hb dX12_moves_90 ?_
        refine va_iald (D := G) hx hb hK hP 7 0 rfl rfl hw.1 dX12_moves_91 ?_
        have hw := hw.2
        refine lv_ishl hx hb dX12_moves_92 ?_
        refine lv_ior hx hb dX12_moves_93 ?_
        refine ms_mVv (wr := [(q_t_states, .inl (cI, 2, .inl A_states)), (q_t_markMany, .inl (cI, 2, .inl A_markMany)), (q_t_text, .inl (cI, 160, .inl A_text)), (q_t_read, .inl (cI, 64, .inl u11))]) ⟨hx, hb, hml, hown, hts⟩ hK hP hD (c_X12_tell l G cI cJ cZ q_t q_t_states q_t_markMany q_t_takes q_t_puts q_t_goes q_t_closes q_t_text q_t_read q_t_row q_t_partner q_t_some q_t_stackCome q_t_stackSince q_t_stackLetter q_t_runs q_t_ways q_t_keptRuns q_t_keptWays q_t_rel q_t_whole q_t_wholeLong q_t_nodeCome q_t_nodeSince q_t_nodeDeep q_t_nodeLong q_t_wholeMany q_t_blockTo q_t_nodeMany q_t_listCome q_t_listSince q_t_nextCome q_t_nextSince H.size F_bytes u4 u5 u6 u7 u8 u9 u10 F_size F_stacked F_come F_since F_known_23 F_isSpent F_wholes F_nodes F_places F_listed F_nexts A_puts_23 A_goes_23 A_closes_23 p0 x15 x16 x17 (r18 ||| ((1 : Int32) <<< ((u11 (((4 : Int32) * i23_2) + (3 : Int32)).toNatClampNeg) &&& 31))) hw) gX12_moves_X12_tell rfl nd_X12_tell (ci := 12) rfl rfl rfl ⟨rfl, rfl⟩ rfl ⟨Nat.le_of_ble_eq_true rfl, Nat.le_of_ble_eq_true rfl⟩ hl.1 (rest := []) rfl (Nat.le_of_ble_eq_true rfl)  hS hA [0, 3, 4, 5] [1, 2, 6, 7] rfl rfl rfl (by decide) rfl dX12_moves_94 (fun u H locs hw hP hD hS => ?_)
        obtain ⟨u19, u20, u21, u22⟩ := u
        obtain ⟨hP, hD⟩ : ms_PD G A [(q_t, .inr (12, [.ref q_t_states, .ref q_t_markMany, .ref q_t_takes, .ref q_t_puts, .ref q_t_goes, .ref q_t_closes, .int F_bytes, .ref q_t_text, .int u4, .int u5, .long u6, .int u7, .int u8, .int u9, .int u10, .ref q_t_read, .int F_size, .ref q_t_row, .ref q_t_partner, .ref q_t_some, .ref q_t_stackCome, .ref q_t_stackSince, .ref q_t_stackLetter, .int F_stacked, .int F_come, .int F_since, .ref q_t_runs, .ref q_t_ways, .ref q_t_keptRuns, .ref q_t_keptWays, .ref q_t_rel, .int u19, .int F_isSpent, .ref q_t_whole, .ref q_t_wholeLong, .int F_wholes, .ref q_t_nodeCome, .ref q_t_nodeSince, .ref q_t_nodeDeep, .ref q_t_nodeLong, .int F_nodes, .int F_places, .ref q_t_wholeMany, .ref q_t_blockTo, .ref q_t_nodeMany, .ref q_t_listCome, .ref q_t_listSince, .int F_listed, .ref q_t_nextCome, .ref q_t_nextSince, .int F_nexts])), (q_t_states, .inl (cI, 2, .inl A_states)), (q_t_markMany, .inl (cI, 2, .inl A_markMany)), (q_t_puts, .inl (cI, 24, .inl u20)), (q_t_goes, .inl (cI, 12, .inl u21)), (q_t_closes, .inl (cI, 36, .inl u22)), (q_t_text, .inl (cI, 160, .inl A_text)), (q_t_read, .inl (cI, 64, .inl u11))] H := ms_PDsub hP hD [4, 0, 1, 5, 6, 7, 2, 3] (by decide +kernel) rfl
        obtain ⟨x23, ex23⟩ : ∃ y : Int32, y = i23_2 + (1 : Int32) := ⟨_, rfl⟩
        have hw := hw x23 ex23
        refine lv_iinc (v := x23) (lv' := [(2, .int x23), (5, .int x17), (4, .int x16), (3, .int x15), (0, .ref q_t), (1, .int p0)]) hx hb dX12_moves_97 hl (k := 5) rfl (by rw [ex23]; rfl) (by decide) rfl (fun ls hl => ?_)
        refine lv_goto (tgt := 23) hx hb dX12_moves_100 (by decide) ?_
        exact hw H locs hP hD hS ls (lv_sub hl [4, 5, 0] rfl)
    · have hw := hw.1 c12
      refine lv_bipush (v := (-4)) hx hb dX12_moves_18 (by decide) ?_
      exact hRet (-4 : Int32) ⟨F_bytes, u4, u5, u6, u7, u8, u9, u10, F_known, A_puts, A_goes, A_closes, u11⟩ H locs _ _ hw (vp_nar_int _) hP hD hS dX12_moves_20
  · have hw := hw.1 c2
    refine lv_bipush (v := (-2)) hx hb dX12_moves_7 (by decide) ?_
    exact hRet (-2 : Int32) ⟨F_bytes, F_position, F_tokenAt, F_token, F_digits, F_number, F_faultAt, F_readMany, F_known, A_puts, A_goes, A_closes, A_read⟩ s.heap [] _ _ hw (vp_nar_int _) hP hD hS dX12_moves_9
def wX12_isTold (p0 : Int32) (p1 : Int32) (p2 : Int32) (p3 : Int32) (p4 : Int32) (A_states : Nat → Int32) (A_markMany : Nat → Int32) (K : Int32 → Prop) : Prop :=
  (wX12_isReader p0 (fun r1 => ((r1 = (0 : Int32) → K (0 : Int32)) ∧ (¬ r1 = (0 : Int32) → (vp_in p0 2 ∧ (wX12_in p1 (0 : Int32) ((A_states p0.toNatClampNeg) - (1 : Int32)) (fun r3 => ((r3 = (0 : Int32) → K (0 : Int32)) ∧ (¬ r3 = (0 : Int32) → (vp_in p0 2 ∧ (wX12_in p4 (0 : Int32) ((A_states p0.toNatClampNeg) - (1 : Int32)) (fun r5 => ((r5 = (0 : Int32) → K (0 : Int32)) ∧ (¬ r5 = (0 : Int32) → (wX12_in p2 (0 : Int32) (5 : Int32) (fun r7 => ((r7 = (0 : Int32) → K (0 : Int32)) ∧ (¬ r7 = (0 : Int32) → (((2 : Int32) ≤ p2 → (((4 : Int32) ≤ p2 → (vp_in p0 2 ∧ (wX12_in p3 (-1 : Int32) ((A_markMany p0.toNatClampNeg) - (1 : Int32)) (fun r11 => K r11)))) ∧ (¬ (4 : Int32) ≤ p2 → ((p3 = (0 : Int32) → K (1 : Int32)) ∧ (¬ p3 = (0 : Int32) → K (0 : Int32)))))) ∧ (¬ (2 : Int32) ≤ p2 → (vp_in p0 2 ∧ (wX12_in p3 (0 : Int32) ((A_markMany p0.toNatClampNeg) - (1 : Int32)) (fun r13 => K r13)))))))))))))))))))))))
abbrev rmX12_isTold : Room := { frames := 2, cells := 0, slots := 0, locals := 42 }
theorem nd_X12_isTold : yX12_isTold.cls = RX12 ∧ yX12_isTold.cls ≠ "java/lang/invoke/MethodHandle" ∧ yX12_isTold.cls ≠ "java/lang/invoke/VarHandle" ∧ (parseMethodDescriptor yX12_isTold.desc).map (fun d => d.parameters.length) = some 5 := by decide +kernel
theorem hkX12_isTold_X12 : ∀ w ∈ u_ws RX12 TX12 51, w ∈ wsX12_isTold := fun w h => List.mem_cons_of_mem _ (inlX12 w h)
theorem hfX12_isTold_7 : (Cond.fieldLink RX12 7 "NestReadersModel" "states" "[I") ∈ wsX12_isTold := List.mem_cons_of_mem _ m8_20
theorem hfX12_isTold_13 : (Cond.fieldLink RX12 13 "NestReadersModel" "markMany" "[I") ∈ wsX12_isTold := List.mem_cons_of_mem _ m8_21
set_option maxHeartbeats 4000000 in
set_option maxRecDepth 100000 in
theorem c_X12_isTold (l : Launch) (G : va_G) (cI cJ cZ : ClassId) (q_t q_t_states q_t_markMany q_t_takes q_t_puts q_t_goes q_t_closes q_t_text q_t_read q_t_row q_t_partner q_t_some q_t_stackCome q_t_stackSince q_t_stackLetter q_t_runs q_t_ways q_t_keptRuns q_t_keptWays q_t_rel q_t_whole q_t_wholeLong q_t_nodeCome q_t_nodeSince q_t_nodeDeep q_t_nodeLong q_t_wholeMany q_t_blockTo q_t_nodeMany q_t_listCome q_t_listSince q_t_nextCome q_t_nextSince : Nat) (F_bytes : Int32) (F_position : Int32) (F_tokenAt : Int32) (F_token : Int64) (F_digits : Int32) (F_number : Int32) (F_faultAt : Int32) (F_readMany : Int32) (F_size : Int32) (F_stacked : Int32) (F_come : Int32) (F_since : Int32) (F_known : Int32) (F_isSpent : Int32) (F_wholes : Int32) (F_nodes : Int32) (F_places : Int32) (F_listed : Int32) (F_nexts : Int32) (A_states : Nat → Int32) (A_markMany : Nat → Int32) (p0 : Int32) (p1 : Int32) (p2 : Int32) (p3 : Int32) (p4 : Int32) {K : Int32 → Prop} (hw : wX12_isTold p0 p1 p2 p3 p4 A_states A_markMany K) : Met l yX12_isTold wsX12_isTold rmX12_isTold (ms_P G (ms_T cI cJ cZ) [(q_t, .inr (12, [.ref q_t_states, .ref q_t_markMany, .ref q_t_takes, .ref q_t_puts, .ref q_t_goes, .ref q_t_closes, .int F_bytes, .ref q_t_text, .int F_position, .int F_tokenAt, .long F_token, .int F_digits, .int F_number, .int F_faultAt, .int F_readMany, .ref q_t_read, .int F_size, .ref q_t_row, .ref q_t_partner, .ref q_t_some, .ref q_t_stackCome, .ref q_t_stackSince, .ref q_t_stackLetter, .int F_stacked, .int F_come, .int F_since, .ref q_t_runs, .ref q_t_ways, .ref q_t_keptRuns, .ref q_t_keptWays, .ref q_t_rel, .int F_known, .int F_isSpent, .ref q_t_whole, .ref q_t_wholeLong, .int F_wholes, .ref q_t_nodeCome, .ref q_t_nodeSince, .ref q_t_nodeDeep, .ref q_t_nodeLong, .int F_nodes, .int F_places, .ref q_t_wholeMany, .ref q_t_blockTo, .ref q_t_nodeMany, .ref q_t_listCome, .ref q_t_listSince, .int F_listed, .ref q_t_nextCome, .ref q_t_nextSince, .int F_nexts])), (q_t_states, .inl (cI, 2, .inl A_states)), (q_t_markMany, .inl (cI, 2, .inl A_markMany))] [.ref q_t, .int p0, .int p1, .int p2, .int p3, .int p4]) (ms_Qi (fun r : Int32 => ms_z r ∧ K r)) 0 0 ms_N := by
  refine ms_si (cc := cX12_isTold) (maxL := 6) (ty := .boolean) (by decide) rfl (Nat.le_of_ble_eq_true rfl) ?_
  intro p e s m args below meth c Q hx hb hml hown hts hK hP hD hRet ls hl
  have hl : lv_has ls 6 [(0, .ref q_t), (1, .int p0), (2, .int p1), (3, .int p2), (4, .int p3), (5, .int p4)] := hl
  have hown : s.vm.findClass RX12 = some m.cls := hown
  refine lv_iload_n hx hb dX12_isTold_0 rfl (lv_at hl 1 rfl) ?_
  refine ms_cSi ⟨hx, hb, hml, hown, hts⟩ hK hP hD (c_X12_isReader l G cI cJ cZ p0 hw) gX12_isTold_X12_isReader rfl nd_X12_isReader ⟨rfl, rfl⟩ rfl ⟨Nat.le_of_ble_eq_true rfl, Nat.le_of_ble_eq_true rfl⟩ hl.1 (rest := []) rfl (Nat.le_of_ble_eq_true rfl)  [] rfl rfl dX12_isTold_1 (fun r1 hw => ?_)
  have zzr1 := hw.1
  have hw := hw.2
  refine lv_if_eq (tgt := 49) hx hb dX12_isTold_4 (by decide) (fun c2 => ?_) (fun c2 => ?_)
  · have hw := hw.1 c2
    refine lv_iconst (v := 0) hx hb dX12_isTold_49 (by decide) ?_
    exact hRet (0 : Int32) _ _ ⟨ms_z0, hw⟩ ms_z0 dX12_isTold_50
  · have hw := hw.2 c2
    refine lv_iload_n hx hb dX12_isTold_7 rfl (lv_at hl 2 rfl) ?_
    refine lv_iconst (v := 0) hx hb dX12_isTold_8 (by decide) ?_
    refine lv_aload_n hx hb dX12_isTold_9 rfl (lv_at hl 0 rfl) ?_
    refine va_get (D := G) (ci := 12) (v := .ref q_t_states) (C := RX12) (T := TX12) (N := 51) hx hb hts hkX12_isTold_X12 hown hK hP 0 rfl rfl 0 (by decide) (hts (.fieldLink RX12 7 "NestReadersModel" "states" "[I") hfX12_isTold_7) (fun _ h9 => h9) rfl dX12_isTold_10 ?_
    refine lv_iload_n hx hb dX12_isTold_13 rfl (lv_at hl 1 rfl) ?_
    refine va_iald (D := G) hx hb hK hP 1 0 rfl rfl hw.1 dX12_isTold_14 ?_
    have hw := hw.2
    refine lv_iconst (v := 1) hx hb dX12_isTold_15 (by decide) ?_
    refine lv_isub hx hb dX12_isTold_16 ?_
    refine ms_cSi ⟨hx, hb, hml, hown, hts⟩ hK hP hD (c_X12_in l G cI cJ cZ p1 (0 : Int32) ((A_states p0.toNatClampNeg) - (1 : Int32)) hw) gX12_isTold_X12_in rfl nd_X12_in ⟨rfl, rfl⟩ rfl ⟨Nat.le_of_ble_eq_true rfl, Nat.le_of_ble_eq_true rfl⟩ hl.1 (rest := []) rfl (Nat.le_of_ble_eq_true rfl)  [] rfl rfl dX12_isTold_17 (fun r3 hw => ?_)
    have zzr3 := hw.1
    have hw := hw.2
    refine lv_if_eq (tgt := 49) hx hb dX12_isTold_20 (by decide) (fun c4 => ?_) (fun c4 => ?_)
    · have hw := hw.1 c4
      refine lv_iconst (v := 0) hx hb dX12_isTold_49 (by decide) ?_
      exact hRet (0 : Int32) _ _ ⟨ms_z0, hw⟩ ms_z0 dX12_isTold_50
    · have hw := hw.2 c4
      refine lv_iload hx hb dX12_isTold_23 (lv_at hl 5 rfl) ?_
      refine lv_iconst (v := 0) hx hb dX12_isTold_25 (by decide) ?_
      refine lv_aload_n hx hb dX12_isTold_26 rfl (lv_at hl 0 rfl) ?_
      refine va_get (D := G) (ci := 12) (v := .ref q_t_states) (C := RX12) (T := TX12) (N := 51) hx hb hts hkX12_isTold_X12 hown hK hP 0 rfl rfl 0 (by decide) (hts (.fieldLink RX12 7 "NestReadersModel" "states" "[I") hfX12_isTold_7) (fun _ h9 => h9) rfl dX12_isTold_27 ?_
      refine lv_iload_n hx hb dX12_isTold_30 rfl (lv_at hl 1 rfl) ?_
      refine va_iald (D := G) hx hb hK hP 1 0 rfl rfl hw.1 dX12_isTold_31 ?_
      have hw := hw.2
      refine lv_iconst (v := 1) hx hb dX12_isTold_32 (by decide) ?_
      refine lv_isub hx hb dX12_isTold_33 ?_
      refine ms_cSi ⟨hx, hb, hml, hown, hts⟩ hK hP hD (c_X12_in l G cI cJ cZ p4 (0 : Int32) ((A_states p0.toNatClampNeg) - (1 : Int32)) hw) gX12_isTold_X12_in rfl nd_X12_in ⟨rfl, rfl⟩ rfl ⟨Nat.le_of_ble_eq_true rfl, Nat.le_of_ble_eq_true rfl⟩ hl.1 (rest := []) rfl (Nat.le_of_ble_eq_true rfl)  [] rfl rfl dX12_isTold_34 (fun r5 hw => ?_)
      have zzr5 := hw.1
      have hw := hw.2
      refine lv_if_eq (tgt := 49) hx hb dX12_isTold_37 (by decide) (fun c6 => ?_) (fun c6 => ?_)
      · have hw := hw.1 c6
        refine lv_iconst (v := 0) hx hb dX12_isTold_49 (by decide) ?_
        exact hRet (0 : Int32) _ _ ⟨ms_z0, hw⟩ ms_z0 dX12_isTold_50
      · have hw := hw.2 c6
        refine lv_iload_n hx hb dX12_isTold_40 rfl (lv_at hl 3 rfl) ?_
        refine lv_iconst (v := 0) hx hb dX12_isTold_41 (by decide) ?_
        refine lv_iconst (v := 5) hx hb dX12_isTold_42 (by decide) ?_
        refine ms_cSi ⟨hx, hb, hml, hown, hts⟩ hK hP hD (c_X12_in l G cI cJ cZ p2 (0 : Int32) (5 : Int32) hw) gX12_isTold_X12_in rfl nd_X12_in ⟨rfl, rfl⟩ rfl ⟨Nat.le_of_ble_eq_true rfl, Nat.le_of_ble_eq_true rfl⟩ hl.1 (rest := []) rfl (Nat.le_of_ble_eq_true rfl)  [] rfl rfl dX12_isTold_43 (fun r7 hw => ?_)
        have zzr7 := hw.1
        have hw := hw.2
        refine lv_if_ne (tgt := 51) hx hb dX12_isTold_46 (by decide) (fun c8 => ?_) (fun c8 => ?_)
        · have hw := hw.2 c8
          refine lv_iload_n hx hb dX12_isTold_51 rfl (lv_at hl 3 rfl) ?_
          refine lv_iconst (v := 2) hx hb dX12_isTold_52 (by decide) ?_
          refine lv_icmp_ge (tgt := 73) hx hb dX12_isTold_53 (by decide) (fun c9 => ?_) (fun c9 => ?_)
          · have hw := hw.1 c9
            refine lv_iload_n hx hb dX12_isTold_73 rfl (lv_at hl 3 rfl) ?_
            refine lv_iconst (v := 4) hx hb dX12_isTold_74 (by decide) ?_
            refine lv_icmp_ge (tgt := 91) hx hb dX12_isTold_75 (by decide) (fun c10 => ?_) (fun c10 => ?_)
            · have hw := hw.1 c10
              refine lv_iload hx hb dX12_isTold_91 (lv_at hl 4 rfl) ?_
              refine lv_iconst (v := (-1)) hx hb dX12_isTold_93 (by decide) ?_
              refine lv_aload_n hx hb dX12_isTold_94 rfl (lv_at hl 0 rfl) ?_
              refine va_get (D := G) (ci := 12) (v := .ref q_t_markMany) (C := RX12) (T := TX12) (N := 51) hx hb hts hkX12_isTold_X12 hown hK hP 0 rfl rfl 1 (by decide) (hts (.fieldLink RX12 13 "NestReadersModel" "markMany" "[I") hfX12_isTold_13) (fun _ h9 => h9) rfl dX12_isTold_95 ?_
              refine lv_iload_n hx hb dX12_isTold_98 rfl (lv_at hl 1 rfl) ?_
              refine va_iald (D := G) hx hb hK hP 2 0 rfl rfl hw.1 dX12_isTold_99 ?_
              have hw := hw.2
              refine lv_iconst (v := 1) hx hb dX12_isTold_100 (by decide) ?_
              refine lv_isub hx hb dX12_isTold_101 ?_
              refine ms_cSi ⟨hx, hb, hml, hown, hts⟩ hK hP hD (c_X12_in l G cI cJ cZ p3 (-1 : Int32) ((A_markMany p0.toNatClampNeg) - (1 : Int32)) hw) gX12_isTold_X12_in rfl nd_X12_in ⟨rfl, rfl⟩ rfl ⟨Nat.le_of_ble_eq_true rfl, Nat.le_of_ble_eq_true rfl⟩ hl.1 (rest := []) rfl (Nat.le_of_ble_eq_true rfl)  [] rfl rfl dX12_isTold_102 (fun r11 hw => ?_)
              have zzr11 := hw.1
              have hw := hw.2
              exact hRet r11 _ _ ⟨zzr11, hw⟩ zzr11 dX12_isTold_105
            · have hw := hw.2 c10
              refine lv_iload hx hb dX12_isTold_78 (lv_at hl 4 rfl) ?_
              refine lv_if_ne (tgt := 87) hx hb dX12_isTold_80 (by decide) (fun c12 => ?_) (fun c12 => ?_)
              · have hw := hw.2 c12
                refine lv_iconst (v := 0) hx hb dX12_isTold_87 (by decide) ?_
                refine lv_goto (tgt := 105) hx hb dX12_isTold_88 (by decide) ?_
                exact hRet (0 : Int32) _ _ ⟨ms_z0, hw⟩ ms_z0 dX12_isTold_105
              · have hw := hw.1 c12
                refine lv_iconst (v := 1) hx hb dX12_isTold_83 (by decide) ?_
                refine lv_goto (tgt := 105) hx hb dX12_isTold_84 (by decide) ?_
                exact hRet (1 : Int32) _ _ ⟨ms_z1, hw⟩ ms_z1 dX12_isTold_105
          · have hw := hw.2 c9
            refine lv_iload hx hb dX12_isTold_56 (lv_at hl 4 rfl) ?_
            refine lv_iconst (v := 0) hx hb dX12_isTold_58 (by decide) ?_
            refine lv_aload_n hx hb dX12_isTold_59 rfl (lv_at hl 0 rfl) ?_
            refine va_get (D := G) (ci := 12) (v := .ref q_t_markMany) (C := RX12) (T := TX12) (N := 51) hx hb hts hkX12_isTold_X12 hown hK hP 0 rfl rfl 1 (by decide) (hts (.fieldLink RX12 13 "NestReadersModel" "markMany" "[I") hfX12_isTold_13) (fun _ h9 => h9) rfl dX12_isTold_60 ?_
            refine lv_iload_n hx hb dX12_isTold_63 rfl (lv_at hl 1 rfl) ?_
            refine va_iald (D := G) hx hb hK hP 2 0 rfl rfl hw.1 dX12_isTold_64 ?_
            have hw := hw.2
            refine lv_iconst (v := 1) hx hb dX12_isTold_65 (by decide) ?_
            refine lv_isub hx hb dX12_isTold_66 ?_
            refine ms_cSi ⟨hx, hb, hml, hown, hts⟩ hK hP hD (c_X12_in l G cI cJ cZ p3 (0 : Int32) ((A_markMany p0.toNatClampNeg) - (1 : Int32)) hw) gX12_isTold_X12_in rfl nd_X12_in ⟨rfl, rfl⟩ rfl ⟨Nat.le_of_ble_eq_true rfl, Nat.le_of_ble_eq_true rfl⟩ hl.1 (rest := []) rfl (Nat.le_of_ble_eq_true rfl)  [] rfl rfl dX12_isTold_67 (fun r13 hw => ?_)
            have zzr13 := hw.1
            have hw := hw.2
            refine lv_goto (tgt := 105) hx hb dX12_isTold_70 (by decide) ?_
            exact hRet r13 _ _ ⟨zzr13, hw⟩ zzr13 dX12_isTold_105
        · have hw := hw.1 c8
          refine lv_iconst (v := 0) hx hb dX12_isTold_49 (by decide) ?_
          exact hRet (0 : Int32) _ _ ⟨ms_z0, hw⟩ ms_z0 dX12_isTold_50
def wX12_has (p0 : Int32) (p1 : Int32) (p2 : Int32) (p3 : Int32) (p4 : Int32) (A_states : Nat → Int32) (A_markMany : Nat → Int32) (A_puts : Nat → Int32) (A_goes : Nat → Int32) (A_closes : Nat → Int32) (K : Int32 → Prop) : Prop :=
  (wX12_isTold p0 p1 p2 p3 p4 A_states A_markMany (fun r1 => ((r1 = (0 : Int32) → K (-2 : Int32)) ∧ (¬ r1 = (0 : Int32) → (wX12_tos p0 p1 p2 p3 A_puts A_goes A_closes (fun r3 => K ((r3 >>> (p4 &&& 31)) &&& (1 : Int32))))))))
abbrev rmX12_has : Room := { frames := 3, cells := 0, slots := 0, locals := 67 }
theorem nd_X12_has : yX12_has.cls = RX12 ∧ yX12_has.cls ≠ "java/lang/invoke/MethodHandle" ∧ yX12_has.cls ≠ "java/lang/invoke/VarHandle" ∧ (parseMethodDescriptor yX12_has.desc).map (fun d => d.parameters.length) = some 5 := by decide +kernel
set_option maxHeartbeats 4000000 in
set_option maxRecDepth 100000 in
theorem c_X12_has (l : Launch) (G : va_G) (cI cJ cZ : ClassId) (q_t q_t_states q_t_markMany q_t_takes q_t_puts q_t_goes q_t_closes q_t_text q_t_read q_t_row q_t_partner q_t_some q_t_stackCome q_t_stackSince q_t_stackLetter q_t_runs q_t_ways q_t_keptRuns q_t_keptWays q_t_rel q_t_whole q_t_wholeLong q_t_nodeCome q_t_nodeSince q_t_nodeDeep q_t_nodeLong q_t_wholeMany q_t_blockTo q_t_nodeMany q_t_listCome q_t_listSince q_t_nextCome q_t_nextSince : Nat) (F_bytes : Int32) (F_position : Int32) (F_tokenAt : Int32) (F_token : Int64) (F_digits : Int32) (F_number : Int32) (F_faultAt : Int32) (F_readMany : Int32) (F_size : Int32) (F_stacked : Int32) (F_come : Int32) (F_since : Int32) (F_known : Int32) (F_isSpent : Int32) (F_wholes : Int32) (F_nodes : Int32) (F_places : Int32) (F_listed : Int32) (F_nexts : Int32) (A_states : Nat → Int32) (A_markMany : Nat → Int32) (A_puts : Nat → Int32) (A_goes : Nat → Int32) (A_closes : Nat → Int32) (p0 : Int32) (p1 : Int32) (p2 : Int32) (p3 : Int32) (p4 : Int32) {K : Int32 → Prop} (hw : wX12_has p0 p1 p2 p3 p4 A_states A_markMany A_puts A_goes A_closes K) : Met l yX12_has wsX12_has rmX12_has (ms_P G (ms_T cI cJ cZ) [(q_t, .inr (12, [.ref q_t_states, .ref q_t_markMany, .ref q_t_takes, .ref q_t_puts, .ref q_t_goes, .ref q_t_closes, .int F_bytes, .ref q_t_text, .int F_position, .int F_tokenAt, .long F_token, .int F_digits, .int F_number, .int F_faultAt, .int F_readMany, .ref q_t_read, .int F_size, .ref q_t_row, .ref q_t_partner, .ref q_t_some, .ref q_t_stackCome, .ref q_t_stackSince, .ref q_t_stackLetter, .int F_stacked, .int F_come, .int F_since, .ref q_t_runs, .ref q_t_ways, .ref q_t_keptRuns, .ref q_t_keptWays, .ref q_t_rel, .int F_known, .int F_isSpent, .ref q_t_whole, .ref q_t_wholeLong, .int F_wholes, .ref q_t_nodeCome, .ref q_t_nodeSince, .ref q_t_nodeDeep, .ref q_t_nodeLong, .int F_nodes, .int F_places, .ref q_t_wholeMany, .ref q_t_blockTo, .ref q_t_nodeMany, .ref q_t_listCome, .ref q_t_listSince, .int F_listed, .ref q_t_nextCome, .ref q_t_nextSince, .int F_nexts])), (q_t_states, .inl (cI, 2, .inl A_states)), (q_t_markMany, .inl (cI, 2, .inl A_markMany)), (q_t_puts, .inl (cI, 24, .inl A_puts)), (q_t_goes, .inl (cI, 12, .inl A_goes)), (q_t_closes, .inl (cI, 36, .inl A_closes))] [.ref q_t, .int p0, .int p1, .int p2, .int p3, .int p4]) (ms_Qi K) 0 0 ms_N := by
  refine ms_si (cc := cX12_has) (maxL := 6) (ty := .int) (by decide) rfl (Nat.le_of_ble_eq_true rfl) ?_
  intro p e s m args below meth c Q hx hb hml hown hts hK hP hD hRet ls hl
  have hl : lv_has ls 6 [(0, .ref q_t), (1, .int p0), (2, .int p1), (3, .int p2), (4, .int p3), (5, .int p4)] := hl
  have hown : s.vm.findClass RX12 = some m.cls := hown
  refine lv_aload_n hx hb dX12_has_0 rfl (lv_at hl 0 rfl) ?_
  refine lv_iload_n hx hb dX12_has_1 rfl (lv_at hl 1 rfl) ?_
  refine lv_iload_n hx hb dX12_has_2 rfl (lv_at hl 2 rfl) ?_
  refine lv_iload_n hx hb dX12_has_3 rfl (lv_at hl 3 rfl) ?_
  refine lv_iload hx hb dX12_has_4 (lv_at hl 4 rfl) ?_
  refine lv_iload hx hb dX12_has_6 (lv_at hl 5 rfl) ?_
  refine ms_cVi ⟨hx, hb, hml, hown, hts⟩ hK hP hD (c_X12_isTold l G cI cJ cZ q_t q_t_states q_t_markMany q_t_takes q_t_puts q_t_goes q_t_closes q_t_text q_t_read q_t_row q_t_partner q_t_some q_t_stackCome q_t_stackSince q_t_stackLetter q_t_runs q_t_ways q_t_keptRuns q_t_keptWays q_t_rel q_t_whole q_t_wholeLong q_t_nodeCome q_t_nodeSince q_t_nodeDeep q_t_nodeLong q_t_wholeMany q_t_blockTo q_t_nodeMany q_t_listCome q_t_listSince q_t_nextCome q_t_nextSince F_bytes F_position F_tokenAt F_token F_digits F_number F_faultAt F_readMany F_size F_stacked F_come F_since F_known F_isSpent F_wholes F_nodes F_places F_listed F_nexts A_states A_markMany p0 p1 p2 p3 p4 hw) gX12_has_X12_isTold rfl nd_X12_isTold (ci := 12) rfl rfl rfl ⟨rfl, rfl⟩ rfl ⟨Nat.le_of_ble_eq_true rfl, Nat.le_of_ble_eq_true rfl⟩ hl.1 (rest := []) rfl (Nat.le_of_ble_eq_true rfl)  [0, 1, 2] rfl rfl dX12_has_8 (fun r1 hw => ?_)
  have zzr1 := hw.1
  have hw := hw.2
  refine lv_if_eq (tgt := 31) hx hb dX12_has_11 (by decide) (fun c2 => ?_) (fun c2 => ?_)
  · have hw := hw.1 c2
    refine lv_bipush (v := (-2)) hx hb dX12_has_31 (by decide) ?_
    exact hRet (-2 : Int32) _ _ hw (vp_nar_int _) dX12_has_33
  · have hw := hw.2 c2
    refine lv_aload_n hx hb dX12_has_14 rfl (lv_at hl 0 rfl) ?_
    refine lv_iload_n hx hb dX12_has_15 rfl (lv_at hl 1 rfl) ?_
    refine lv_iload_n hx hb dX12_has_16 rfl (lv_at hl 2 rfl) ?_
    refine lv_iload_n hx hb dX12_has_17 rfl (lv_at hl 3 rfl) ?_
    refine lv_iload hx hb dX12_has_18 (lv_at hl 4 rfl) ?_
    refine ms_cVi ⟨hx, hb, hml, hown, hts⟩ hK hP hD (c_X12_tos l G cI cJ cZ q_t q_t_states q_t_markMany q_t_takes q_t_puts q_t_goes q_t_closes q_t_text q_t_read q_t_row q_t_partner q_t_some q_t_stackCome q_t_stackSince q_t_stackLetter q_t_runs q_t_ways q_t_keptRuns q_t_keptWays q_t_rel q_t_whole q_t_wholeLong q_t_nodeCome q_t_nodeSince q_t_nodeDeep q_t_nodeLong q_t_wholeMany q_t_blockTo q_t_nodeMany q_t_listCome q_t_listSince q_t_nextCome q_t_nextSince F_bytes F_position F_tokenAt F_token F_digits F_number F_faultAt F_readMany F_size F_stacked F_come F_since F_known F_isSpent F_wholes F_nodes F_places F_listed F_nexts A_puts A_goes A_closes p0 p1 p2 p3 hw) gX12_has_X12_tos rfl nd_X12_tos (ci := 12) rfl rfl rfl ⟨rfl, rfl⟩ rfl ⟨Nat.le_of_ble_eq_true rfl, Nat.le_of_ble_eq_true rfl⟩ hl.1 (rest := []) rfl (Nat.le_of_ble_eq_true rfl)  [0, 3, 4, 5] rfl rfl dX12_has_20 (fun r3 hw => ?_)
    refine lv_iload hx hb dX12_has_23 (lv_at hl 5 rfl) ?_
    refine lv_ishr hx hb dX12_has_25 ?_
    refine lv_iconst (v := 1) hx hb dX12_has_26 (by decide) ?_
    refine lv_iand hx hb dX12_has_27 ?_
    refine lv_goto (tgt := 33) hx hb dX12_has_28 (by decide) ?_
    exact hRet ((r3 >>> (p4 &&& 31)) &&& (1 : Int32)) _ _ hw (vp_nar_int _) dX12_has_33
def wX12_drop (p0 : Int32) (p1 : Int32) (p2 : Int32) (p3 : Int32) (p4 : Int32) (F_known : Int32) (A_states : Nat → Int32) (A_markMany : Nat → Int32) (A_puts : Nat → Int32) (A_goes : Nat → Int32) (A_closes : Nat → Int32) (K : Int32 → Int32 → (Nat → Int32) → (Nat → Int32) → (Nat → Int32) → Prop) : Prop :=
  (wX12_isTold p0 p1 p2 p3 p4 A_states A_markMany (fun r1 => ((r1 = (0 : Int32) → K (-2 : Int32) F_known A_puts A_goes A_closes) ∧ (¬ r1 = (0 : Int32) → (wX12_tos p0 p1 p2 p3 A_puts A_goes A_closes (fun r3 => ((((r3 >>> (p4 &&& 31)) &&& (1 : Int32)) = (0 : Int32) → K (-2 : Int32) F_known A_puts A_goes A_closes) ∧ (¬ ((r3 >>> (p4 &&& 31)) &&& (1 : Int32)) = (0 : Int32) → (wX12_tos p0 p1 p2 p3 A_puts A_goes A_closes (fun r5 => (wX12_tell p0 p1 p2 p3 (r5 &&& (((1 : Int32) <<< (p4 &&& 31)) ^^^ (-1 : Int32))) F_known A_puts A_goes A_closes (fun u6 u7 u8 u9 => (wX12_movesOf p0 u7 u8 u9 (fun r10 => K r10 u6 u7 u8 u9))))))))))))))
abbrev rmX12_drop : Room := { frames := 3, cells := 0, slots := 0, locals := 67 }
theorem nd_X12_drop : yX12_drop.cls = RX12 ∧ yX12_drop.cls ≠ "java/lang/invoke/MethodHandle" ∧ yX12_drop.cls ≠ "java/lang/invoke/VarHandle" ∧ (parseMethodDescriptor yX12_drop.desc).map (fun d => d.parameters.length) = some 5 := by decide +kernel
set_option maxHeartbeats 4000000 in
set_option maxRecDepth 100000 in
theorem c_X12_drop (l : Launch) (G : va_G) (cI cJ cZ : ClassId) (q_t q_t_states q_t_markMany q_t_takes q_t_puts q_t_goes q_t_closes q_t_text q_t_read q_t_row q_t_partner q_t_some q_t_stackCome q_t_stackSince q_t_stackLetter q_t_runs q_t_ways q_t_keptRuns q_t_keptWays q_t_rel q_t_whole q_t_wholeLong q_t_nodeCome q_t_nodeSince q_t_nodeDeep q_t_nodeLong q_t_wholeMany q_t_blockTo q_t_nodeMany q_t_listCome q_t_listSince q_t_nextCome q_t_nextSince : Nat) (sz : Nat) (F_bytes : Int32) (F_position : Int32) (F_tokenAt : Int32) (F_token : Int64) (F_digits : Int32) (F_number : Int32) (F_faultAt : Int32) (F_readMany : Int32) (F_size : Int32) (F_stacked : Int32) (F_come : Int32) (F_since : Int32) (F_known : Int32) (F_isSpent : Int32) (F_wholes : Int32) (F_nodes : Int32) (F_places : Int32) (F_listed : Int32) (F_nexts : Int32) (A_states : Nat → Int32) (A_markMany : Nat → Int32) (A_puts : Nat → Int32) (A_goes : Nat → Int32) (A_closes : Nat → Int32) (p0 : Int32) (p1 : Int32) (p2 : Int32) (p3 : Int32) (p4 : Int32) {K : Int32 → Int32 → (Nat → Int32) → (Nat → Int32) → (Nat → Int32) → Prop} (hw : wX12_drop p0 p1 p2 p3 p4 F_known A_states A_markMany A_puts A_goes A_closes K) : Met l yX12_drop wsX12_drop rmX12_drop (ms_Pz G (ms_T cI cJ cZ) [(q_t, .inr (12, [.ref q_t_states, .ref q_t_markMany, .ref q_t_takes, .ref q_t_puts, .ref q_t_goes, .ref q_t_closes, .int F_bytes, .ref q_t_text, .int F_position, .int F_tokenAt, .long F_token, .int F_digits, .int F_number, .int F_faultAt, .int F_readMany, .ref q_t_read, .int F_size, .ref q_t_row, .ref q_t_partner, .ref q_t_some, .ref q_t_stackCome, .ref q_t_stackSince, .ref q_t_stackLetter, .int F_stacked, .int F_come, .int F_since, .ref q_t_runs, .ref q_t_ways, .ref q_t_keptRuns, .ref q_t_keptWays, .ref q_t_rel, .int F_known, .int F_isSpent, .ref q_t_whole, .ref q_t_wholeLong, .int F_wholes, .ref q_t_nodeCome, .ref q_t_nodeSince, .ref q_t_nodeDeep, .ref q_t_nodeLong, .int F_nodes, .int F_places, .ref q_t_wholeMany, .ref q_t_blockTo, .ref q_t_nodeMany, .ref q_t_listCome, .ref q_t_listSince, .int F_listed, .ref q_t_nextCome, .ref q_t_nextSince, .int F_nexts])), (q_t_states, .inl (cI, 2, .inl A_states)), (q_t_markMany, .inl (cI, 2, .inl A_markMany)), (q_t_puts, .inl (cI, 24, .inl A_puts)), (q_t_goes, .inl (cI, 12, .inl A_goes)), (q_t_closes, .inl (cI, 36, .inl A_closes))] sz [.ref q_t, .int p0, .int p1, .int p2, .int p3, .int p4]) (ms_Wi G (ms_T cI cJ cZ) (fun (r : Int32) (u : Int32 × (Nat → Int32) × (Nat → Int32) × (Nat → Int32)) => K r u.1 u.2.1 u.2.2.1 u.2.2.2) (fun u : Int32 × (Nat → Int32) × (Nat → Int32) × (Nat → Int32) => [(q_t, .inr (12, [.ref q_t_states, .ref q_t_markMany, .ref q_t_takes, .ref q_t_puts, .ref q_t_goes, .ref q_t_closes, .int F_bytes, .ref q_t_text, .int F_position, .int F_tokenAt, .long F_token, .int F_digits, .int F_number, .int F_faultAt, .int F_readMany, .ref q_t_read, .int F_size, .ref q_t_row, .ref q_t_partner, .ref q_t_some, .ref q_t_stackCome, .ref q_t_stackSince, .ref q_t_stackLetter, .int F_stacked, .int F_come, .int F_since, .ref q_t_runs, .ref q_t_ways, .ref q_t_keptRuns, .ref q_t_keptWays, .ref q_t_rel, .int u.1, .int F_isSpent, .ref q_t_whole, .ref q_t_wholeLong, .int F_wholes, .ref q_t_nodeCome, .ref q_t_nodeSince, .ref q_t_nodeDeep, .ref q_t_nodeLong, .int F_nodes, .int F_places, .ref q_t_wholeMany, .ref q_t_blockTo, .ref q_t_nodeMany, .ref q_t_listCome, .ref q_t_listSince, .int F_listed, .ref q_t_nextCome, .ref q_t_nextSince, .int F_nexts])), (q_t_states, .inl (cI, 2, .inl A_states)), (q_t_markMany, .inl (cI, 2, .inl A_markMany)), (q_t_puts, .inl (cI, 24, .inl u.2.1)), (q_t_goes, .inl (cI, 12, .inl u.2.2.1)), (q_t_closes, .inl (cI, 36, .inl u.2.2.2))]) (va_A [(q_t, .inr (12, [.ref q_t_states, .ref q_t_markMany, .ref q_t_takes, .ref q_t_puts, .ref q_t_goes, .ref q_t_closes, .int F_bytes, .ref q_t_text, .int F_position, .int F_tokenAt, .long F_token, .int F_digits, .int F_number, .int F_faultAt, .int F_readMany, .ref q_t_read, .int F_size, .ref q_t_row, .ref q_t_partner, .ref q_t_some, .ref q_t_stackCome, .ref q_t_stackSince, .ref q_t_stackLetter, .int F_stacked, .int F_come, .int F_since, .ref q_t_runs, .ref q_t_ways, .ref q_t_keptRuns, .ref q_t_keptWays, .ref q_t_rel, .int F_known, .int F_isSpent, .ref q_t_whole, .ref q_t_wholeLong, .int F_wholes, .ref q_t_nodeCome, .ref q_t_nodeSince, .ref q_t_nodeDeep, .ref q_t_nodeLong, .int F_nodes, .int F_places, .ref q_t_wholeMany, .ref q_t_blockTo, .ref q_t_nodeMany, .ref q_t_listCome, .ref q_t_listSince, .int F_listed, .ref q_t_nextCome, .ref q_t_nextSince, .int F_nexts])), (q_t_states, .inl (cI, 2, .inl A_states)), (q_t_markMany, .inl (cI, 2, .inl A_markMany)), (q_t_puts, .inl (cI, 24, .inl A_puts)), (q_t_goes, .inl (cI, 12, .inl A_goes)), (q_t_closes, .inl (cI, 36, .inl A_closes))] sz)) 0 0 (va_A [(q_t, .inr (12, [.ref q_t_states, .ref q_t_markMany, .ref q_t_takes, .ref q_t_puts, .ref q_t_goes, .ref q_t_closes, .int F_bytes, .ref q_t_text, .int F_position, .int F_tokenAt, .long F_token, .int F_digits, .int F_number, .int F_faultAt, .int F_readMany, .ref q_t_read, .int F_size, .ref q_t_row, .ref q_t_partner, .ref q_t_some, .ref q_t_stackCome, .ref q_t_stackSince, .ref q_t_stackLetter, .int F_stacked, .int F_come, .int F_since, .ref q_t_runs, .ref q_t_ways, .ref q_t_keptRuns, .ref q_t_keptWays, .ref q_t_rel, .int F_known, .int F_isSpent, .ref q_t_whole, .ref q_t_wholeLong, .int F_wholes, .ref q_t_nodeCome, .ref q_t_nodeSince, .ref q_t_nodeDeep, .ref q_t_nodeLong, .int F_nodes, .int F_places, .ref q_t_wholeMany, .ref q_t_blockTo, .ref q_t_nodeMany, .ref q_t_listCome, .ref q_t_listSince, .int F_listed, .ref q_t_nextCome, .ref q_t_nextSince, .int F_nexts])), (q_t_states, .inl (cI, 2, .inl A_states)), (q_t_markMany, .inl (cI, 2, .inl A_markMany)), (q_t_puts, .inl (cI, 24, .inl A_puts)), (q_t_goes, .inl (cI, 12, .inl A_goes)), (q_t_closes, .inl (cI, 36, .inl A_closes))] sz) := by
  refine ms_ti (cc := cX12_drop) (maxL := 6) (ty := .int) (by decide) rfl (Nat.le_of_ble_eq_true rfl) ?_
  intro p e s m args below meth c Q A hx hb hml hown hts hK hP hD hS hA hRet ls hl
  have hl : lv_has ls 6 [(0, .ref q_t), (1, .int p0), (2, .int p1), (3, .int p2), (4, .int p3), (5, .int p4)] := hl
  have hown : s.vm.findClass RX12 = some m.cls := hown
  refine lv_aload_n hx hb dX12_drop_0 rfl (lv_at hl 0 rfl) ?_
  refine lv_iload_n hx hb dX12_drop_1 rfl (lv_at hl 1 rfl) ?_
  refine lv_iload_n hx hb dX12_drop_2 rfl (lv_at hl 2 rfl) ?_
  refine lv_iload_n hx hb dX12_drop_3 rfl (lv_at hl 3 rfl) ?_
  refine lv_iload hx hb dX12_drop_4 (lv_at hl 4 rfl) ?_
  refine lv_iload hx hb dX12_drop_6 (lv_at hl 5 rfl) ?_
  refine ms_cVi ⟨hx, hb, hml, hown, hts⟩ hK hP hD (c_X12_isTold l G cI cJ cZ q_t q_t_states q_t_markMany q_t_takes q_t_puts q_t_goes q_t_closes q_t_text q_t_read q_t_row q_t_partner q_t_some q_t_stackCome q_t_stackSince q_t_stackLetter q_t_runs q_t_ways q_t_keptRuns q_t_keptWays q_t_rel q_t_whole q_t_wholeLong q_t_nodeCome q_t_nodeSince q_t_nodeDeep q_t_nodeLong q_t_wholeMany q_t_blockTo q_t_nodeMany q_t_listCome q_t_listSince q_t_nextCome q_t_nextSince F_bytes F_position F_tokenAt F_token F_digits F_number F_faultAt F_readMany F_size F_stacked F_come F_since F_known F_isSpent F_wholes F_nodes F_places F_listed F_nexts A_states A_markMany p0 p1 p2 p3 p4 hw) gX12_drop_X12_isTold rfl nd_X12_isTold (ci := 12) rfl rfl rfl ⟨rfl, rfl⟩ rfl ⟨Nat.le_of_ble_eq_true rfl, Nat.le_of_ble_eq_true rfl⟩ hl.1 (rest := []) rfl (Nat.le_of_ble_eq_true rfl)  [0, 1, 2] rfl rfl dX12_drop_8 (fun r1 hw => ?_)
  have zzr1 := hw.1
  have hw := hw.2
  refine lv_if_eq (tgt := 31) hx hb dX12_drop_11 (by decide) (fun c2 => ?_) (fun c2 => ?_)
  · have hw := hw.1 c2
    refine lv_bipush (v := (-2)) hx hb dX12_drop_31 (by decide) ?_
    exact hRet (-2 : Int32) ⟨F_known, A_puts, A_goes, A_closes⟩ s.heap [] _ _ hw (vp_nar_int _) hP hD hS dX12_drop_33
  · have hw := hw.2 c2
    refine lv_aload_n hx hb dX12_drop_14 rfl (lv_at hl 0 rfl) ?_
    refine lv_iload_n hx hb dX12_drop_15 rfl (lv_at hl 1 rfl) ?_
    refine lv_iload_n hx hb dX12_drop_16 rfl (lv_at hl 2 rfl) ?_
    refine lv_iload_n hx hb dX12_drop_17 rfl (lv_at hl 3 rfl) ?_
    refine lv_iload hx hb dX12_drop_18 (lv_at hl 4 rfl) ?_
    refine ms_cVi ⟨hx, hb, hml, hown, hts⟩ hK hP hD (c_X12_tos l G cI cJ cZ q_t q_t_states q_t_markMany q_t_takes q_t_puts q_t_goes q_t_closes q_t_text q_t_read q_t_row q_t_partner q_t_some q_t_stackCome q_t_stackSince q_t_stackLetter q_t_runs q_t_ways q_t_keptRuns q_t_keptWays q_t_rel q_t_whole q_t_wholeLong q_t_nodeCome q_t_nodeSince q_t_nodeDeep q_t_nodeLong q_t_wholeMany q_t_blockTo q_t_nodeMany q_t_listCome q_t_listSince q_t_nextCome q_t_nextSince F_bytes F_position F_tokenAt F_token F_digits F_number F_faultAt F_readMany F_size F_stacked F_come F_since F_known F_isSpent F_wholes F_nodes F_places F_listed F_nexts A_puts A_goes A_closes p0 p1 p2 p3 hw) gX12_drop_X12_tos rfl nd_X12_tos (ci := 12) rfl rfl rfl ⟨rfl, rfl⟩ rfl ⟨Nat.le_of_ble_eq_true rfl, Nat.le_of_ble_eq_true rfl⟩ hl.1 (rest := []) rfl (Nat.le_of_ble_eq_true rfl)  [0, 3, 4, 5] rfl rfl dX12_drop_20 (fun r3 hw => ?_)
    refine lv_iload hx hb dX12_drop_23 (lv_at hl 5 rfl) ?_
    refine lv_ishr hx hb dX12_drop_25 ?_
    refine lv_iconst (v := 1) hx hb dX12_drop_26 (by decide) ?_
    refine lv_iand hx hb dX12_drop_27 ?_
    refine lv_if_ne (tgt := 34) hx hb dX12_drop_28 (by decide) (fun c4 => ?_) (fun c4 => ?_)
    · have hw := hw.2 c4
      refine lv_aload_n hx hb dX12_drop_34 rfl (lv_at hl 0 rfl) ?_
      refine lv_iload_n hx hb dX12_drop_35 rfl (lv_at hl 1 rfl) ?_
      refine lv_iload_n hx hb dX12_drop_36 rfl (lv_at hl 2 rfl) ?_
      refine lv_iload_n hx hb dX12_drop_37 rfl (lv_at hl 3 rfl) ?_
      refine lv_iload hx hb dX12_drop_38 (lv_at hl 4 rfl) ?_
      refine lv_aload_n hx hb dX12_drop_40 rfl (lv_at hl 0 rfl) ?_
      refine lv_iload_n hx hb dX12_drop_41 rfl (lv_at hl 1 rfl) ?_
      refine lv_iload_n hx hb dX12_drop_42 rfl (lv_at hl 2 rfl) ?_
      refine lv_iload_n hx hb dX12_drop_43 rfl (lv_at hl 3 rfl) ?_
      refine lv_iload hx hb dX12_drop_44 (lv_at hl 4 rfl) ?_
      refine ms_cVi ⟨hx, hb, hml, hown, hts⟩ hK hP hD (c_X12_tos l G cI cJ cZ q_t q_t_states q_t_markMany q_t_takes q_t_puts q_t_goes q_t_closes q_t_text q_t_read q_t_row q_t_partner q_t_some q_t_stackCome q_t_stackSince q_t_stackLetter q_t_runs q_t_ways q_t_keptRuns q_t_keptWays q_t_rel q_t_whole q_t_wholeLong q_t_nodeCome q_t_nodeSince q_t_nodeDeep q_t_nodeLong q_t_wholeMany q_t_blockTo q_t_nodeMany q_t_listCome q_t_listSince q_t_nextCome q_t_nextSince F_bytes F_position F_tokenAt F_token F_digits F_number F_faultAt F_readMany F_size F_stacked F_come F_since F_known F_isSpent F_wholes F_nodes F_places F_listed F_nexts A_puts A_goes A_closes p0 p1 p2 p3 hw) gX12_drop_X12_tos rfl nd_X12_tos (ci := 12) rfl rfl rfl ⟨rfl, rfl⟩ rfl ⟨Nat.le_of_ble_eq_true rfl, Nat.le_of_ble_eq_true rfl⟩ hl.1 (rest := [.int p3, .int p2, .int p1, .int p0, .ref q_t]) rfl (Nat.le_of_ble_eq_true rfl)  [0, 3, 4, 5] rfl rfl dX12_drop_46 (fun r5 hw => ?_)
      refine lv_iconst (v := 1) hx hb dX12_drop_49 (by decide) ?_
      refine lv_iload hx hb dX12_drop_50 (lv_at hl 5 rfl) ?_
      refine lv_ishl hx hb dX12_drop_52 ?_
      refine lv_iconst (v := (-1)) hx hb dX12_drop_53 (by decide) ?_
      refine lv_ixor hx hb dX12_drop_54 ?_
      refine lv_iand hx hb dX12_drop_55 ?_
      refine ms_mVv (wr := [(q_t_states, .inl (cI, 2, .inl A_states)), (q_t_markMany, .inl (cI, 2, .inl A_markMany))]) ⟨hx, hb, hml, hown, hts⟩ hK hP hD (c_X12_tell l G cI cJ cZ q_t q_t_states q_t_markMany q_t_takes q_t_puts q_t_goes q_t_closes q_t_text q_t_read q_t_row q_t_partner q_t_some q_t_stackCome q_t_stackSince q_t_stackLetter q_t_runs q_t_ways q_t_keptRuns q_t_keptWays q_t_rel q_t_whole q_t_wholeLong q_t_nodeCome q_t_nodeSince q_t_nodeDeep q_t_nodeLong q_t_wholeMany q_t_blockTo q_t_nodeMany q_t_listCome q_t_listSince q_t_nextCome q_t_nextSince s.heap.size F_bytes F_position F_tokenAt F_token F_digits F_number F_faultAt F_readMany F_size F_stacked F_come F_since F_known F_isSpent F_wholes F_nodes F_places F_listed F_nexts A_puts A_goes A_closes p0 p1 p2 p3 (r5 &&& (((1 : Int32) <<< (p4 &&& 31)) ^^^ (-1 : Int32))) hw) gX12_drop_X12_tell rfl nd_X12_tell (ci := 12) rfl rfl rfl ⟨rfl, rfl⟩ rfl ⟨Nat.le_of_ble_eq_true rfl, Nat.le_of_ble_eq_true rfl⟩ hl.1 (rest := []) rfl (Nat.le_of_ble_eq_true rfl)  hS hA [0, 3, 4, 5] [1, 2] rfl rfl rfl (by decide) rfl dX12_drop_56 (fun u H locs hw hP hD hS => ?_)
      obtain ⟨u6, u7, u8, u9⟩ := u
      obtain ⟨hP, hD⟩ : ms_PD G A [(q_t, .inr (12, [.ref q_t_states, .ref q_t_markMany, .ref q_t_takes, .ref q_t_puts, .ref q_t_goes, .ref q_t_closes, .int F_bytes, .ref q_t_text, .int F_position, .int F_tokenAt, .long F_token, .int F_digits, .int F_number, .int F_faultAt, .int F_readMany, .ref q_t_read, .int F_size, .ref q_t_row, .ref q_t_partner, .ref q_t_some, .ref q_t_stackCome, .ref q_t_stackSince, .ref q_t_stackLetter, .int F_stacked, .int F_come, .int F_since, .ref q_t_runs, .ref q_t_ways, .ref q_t_keptRuns, .ref q_t_keptWays, .ref q_t_rel, .int u6, .int F_isSpent, .ref q_t_whole, .ref q_t_wholeLong, .int F_wholes, .ref q_t_nodeCome, .ref q_t_nodeSince, .ref q_t_nodeDeep, .ref q_t_nodeLong, .int F_nodes, .int F_places, .ref q_t_wholeMany, .ref q_t_blockTo, .ref q_t_nodeMany, .ref q_t_listCome, .ref q_t_listSince, .int F_listed, .ref q_t_nextCome, .ref q_t_nextSince, .int F_nexts])), (q_t_states, .inl (cI, 2, .inl A_states)), (q_t_markMany, .inl (cI, 2, .inl A_markMany)), (q_t_puts, .inl (cI, 24, .inl u7)), (q_t_goes, .inl (cI, 12, .inl u8)), (q_t_closes, .inl (cI, 36, .inl u9))] H := ms_PDsub hP hD [2, 0, 1, 3, 4, 5] (by decide +kernel) rfl
      refine lv_aload_n hx hb dX12_drop_59 rfl (lv_at hl 0 rfl) ?_
      refine lv_iload_n hx hb dX12_drop_60 rfl (lv_at hl 1 rfl) ?_
      refine ms_cVi ⟨hx, hb, hml, hown, hts⟩ hK hP hD (c_X12_movesOf l G cI cJ cZ q_t q_t_states q_t_markMany q_t_takes q_t_puts q_t_goes q_t_closes q_t_text q_t_read q_t_row q_t_partner q_t_some q_t_stackCome q_t_stackSince q_t_stackLetter q_t_runs q_t_ways q_t_keptRuns q_t_keptWays q_t_rel q_t_whole q_t_wholeLong q_t_nodeCome q_t_nodeSince q_t_nodeDeep q_t_nodeLong q_t_wholeMany q_t_blockTo q_t_nodeMany q_t_listCome q_t_listSince q_t_nextCome q_t_nextSince F_bytes F_position F_tokenAt F_token F_digits F_number F_faultAt F_readMany F_size F_stacked F_come F_since u6 F_isSpent F_wholes F_nodes F_places F_listed F_nexts u7 u8 u9 p0 hw) gX12_drop_X12_movesOf rfl nd_X12_movesOf (ci := 12) rfl rfl rfl ⟨rfl, rfl⟩ rfl ⟨Nat.le_of_ble_eq_true rfl, Nat.le_of_ble_eq_true rfl⟩ hl.1 (rest := []) rfl (Nat.le_of_ble_eq_true rfl)  [0, 3, 4, 5] rfl rfl dX12_drop_61 (fun r10 hw => ?_)
      exact hRet r10 ⟨u6, u7, u8, u9⟩ H locs _ _ hw (vp_nar_int _) hP hD hS dX12_drop_64
    · have hw := hw.1 c4
      refine lv_bipush (v := (-2)) hx hb dX12_drop_31 (by decide) ?_
      exact hRet (-2 : Int32) ⟨F_known, A_puts, A_goes, A_closes⟩ s.heap [] _ _ hw (vp_nar_int _) hP hD hS dX12_drop_33
def wX12_letter (p0 : Int32) (F_size : Int32) (A_row : Nat → Int32) (K : Int32 → Int32 → (Nat → Int32) → Prop) : Prop :=
  (wX12_in p0 (0 : Int32) (5 : Int32) (fun r1 => ((r1 = (0 : Int32) → K (-2 : Int32) F_size A_row) ∧ (¬ r1 = (0 : Int32) → ((F_size = (24 : Int32) → K (-5 : Int32) F_size A_row) ∧ (¬ F_size = (24 : Int32) → (vp_in F_size 24 ∧ (∀ g4 : Nat → Int32, g4 = upd A_row F_size.toNatClampNeg p0 → (∀ x5 : Int32, x5 = (F_size + (1 : Int32)) → K x5 x5 g4)))))))))
abbrev rmX12_letter : Room := { frames := 1, cells := 0, slots := 0, locals := 22 }
theorem nd_X12_letter : yX12_letter.cls = RX12 ∧ yX12_letter.cls ≠ "java/lang/invoke/MethodHandle" ∧ yX12_letter.cls ≠ "java/lang/invoke/VarHandle" ∧ (parseMethodDescriptor yX12_letter.desc).map (fun d => d.parameters.length) = some 1 := by decide +kernel
theorem hkX12_letter_X12 : ∀ w ∈ u_ws RX12 TX12 51, w ∈ wsX12_letter := fun w h => List.mem_cons_of_mem _ (inlX12 w h)
theorem hfX12_letter_219 : (Cond.fieldLink RX12 219 "NestReadersModel" "size" "I") ∈ wsX12_letter := List.mem_cons_of_mem _ m24_5
theorem hfX12_letter_34 : (Cond.fieldLink RX12 34 "NestReadersModel" "row" "[I") ∈ wsX12_letter := List.mem_cons_of_mem _ m9_4
set_option maxHeartbeats 4000000 in
set_option maxRecDepth 100000 in
theorem c_X12_letter (l : Launch) (G : va_G) (cI cJ cZ : ClassId) (q_t q_t_states q_t_markMany q_t_takes q_t_puts q_t_goes q_t_closes q_t_text q_t_read q_t_row q_t_partner q_t_some q_t_stackCome q_t_stackSince q_t_stackLetter q_t_runs q_t_ways q_t_keptRuns q_t_keptWays q_t_rel q_t_whole q_t_wholeLong q_t_nodeCome q_t_nodeSince q_t_nodeDeep q_t_nodeLong q_t_wholeMany q_t_blockTo q_t_nodeMany q_t_listCome q_t_listSince q_t_nextCome q_t_nextSince : Nat) (sz : Nat) (F_bytes : Int32) (F_position : Int32) (F_tokenAt : Int32) (F_token : Int64) (F_digits : Int32) (F_number : Int32) (F_faultAt : Int32) (F_readMany : Int32) (F_size : Int32) (F_stacked : Int32) (F_come : Int32) (F_since : Int32) (F_known : Int32) (F_isSpent : Int32) (F_wholes : Int32) (F_nodes : Int32) (F_places : Int32) (F_listed : Int32) (F_nexts : Int32) (A_row : Nat → Int32) (p0 : Int32) {K : Int32 → Int32 → (Nat → Int32) → Prop} (hw : wX12_letter p0 F_size A_row K) : Met l yX12_letter wsX12_letter rmX12_letter (ms_Pz G (ms_T cI cJ cZ) [(q_t, .inr (12, [.ref q_t_states, .ref q_t_markMany, .ref q_t_takes, .ref q_t_puts, .ref q_t_goes, .ref q_t_closes, .int F_bytes, .ref q_t_text, .int F_position, .int F_tokenAt, .long F_token, .int F_digits, .int F_number, .int F_faultAt, .int F_readMany, .ref q_t_read, .int F_size, .ref q_t_row, .ref q_t_partner, .ref q_t_some, .ref q_t_stackCome, .ref q_t_stackSince, .ref q_t_stackLetter, .int F_stacked, .int F_come, .int F_since, .ref q_t_runs, .ref q_t_ways, .ref q_t_keptRuns, .ref q_t_keptWays, .ref q_t_rel, .int F_known, .int F_isSpent, .ref q_t_whole, .ref q_t_wholeLong, .int F_wholes, .ref q_t_nodeCome, .ref q_t_nodeSince, .ref q_t_nodeDeep, .ref q_t_nodeLong, .int F_nodes, .int F_places, .ref q_t_wholeMany, .ref q_t_blockTo, .ref q_t_nodeMany, .ref q_t_listCome, .ref q_t_listSince, .int F_listed, .ref q_t_nextCome, .ref q_t_nextSince, .int F_nexts])), (q_t_row, .inl (cI, 24, .inl A_row))] sz [.ref q_t, .int p0]) (ms_Wi G (ms_T cI cJ cZ) (fun (r : Int32) (u : Int32 × (Nat → Int32)) => K r u.1 u.2) (fun u : Int32 × (Nat → Int32) => [(q_t, .inr (12, [.ref q_t_states, .ref q_t_markMany, .ref q_t_takes, .ref q_t_puts, .ref q_t_goes, .ref q_t_closes, .int F_bytes, .ref q_t_text, .int F_position, .int F_tokenAt, .long F_token, .int F_digits, .int F_number, .int F_faultAt, .int F_readMany, .ref q_t_read, .int u.1, .ref q_t_row, .ref q_t_partner, .ref q_t_some, .ref q_t_stackCome, .ref q_t_stackSince, .ref q_t_stackLetter, .int F_stacked, .int F_come, .int F_since, .ref q_t_runs, .ref q_t_ways, .ref q_t_keptRuns, .ref q_t_keptWays, .ref q_t_rel, .int F_known, .int F_isSpent, .ref q_t_whole, .ref q_t_wholeLong, .int F_wholes, .ref q_t_nodeCome, .ref q_t_nodeSince, .ref q_t_nodeDeep, .ref q_t_nodeLong, .int F_nodes, .int F_places, .ref q_t_wholeMany, .ref q_t_blockTo, .ref q_t_nodeMany, .ref q_t_listCome, .ref q_t_listSince, .int F_listed, .ref q_t_nextCome, .ref q_t_nextSince, .int F_nexts])), (q_t_row, .inl (cI, 24, .inl u.2))]) (va_A [(q_t, .inr (12, [.ref q_t_states, .ref q_t_markMany, .ref q_t_takes, .ref q_t_puts, .ref q_t_goes, .ref q_t_closes, .int F_bytes, .ref q_t_text, .int F_position, .int F_tokenAt, .long F_token, .int F_digits, .int F_number, .int F_faultAt, .int F_readMany, .ref q_t_read, .int F_size, .ref q_t_row, .ref q_t_partner, .ref q_t_some, .ref q_t_stackCome, .ref q_t_stackSince, .ref q_t_stackLetter, .int F_stacked, .int F_come, .int F_since, .ref q_t_runs, .ref q_t_ways, .ref q_t_keptRuns, .ref q_t_keptWays, .ref q_t_rel, .int F_known, .int F_isSpent, .ref q_t_whole, .ref q_t_wholeLong, .int F_wholes, .ref q_t_nodeCome, .ref q_t_nodeSince, .ref q_t_nodeDeep, .ref q_t_nodeLong, .int F_nodes, .int F_places, .ref q_t_wholeMany, .ref q_t_blockTo, .ref q_t_nodeMany, .ref q_t_listCome, .ref q_t_listSince, .int F_listed, .ref q_t_nextCome, .ref q_t_nextSince, .int F_nexts])), (q_t_row, .inl (cI, 24, .inl A_row))] sz)) 0 0 (va_A [(q_t, .inr (12, [.ref q_t_states, .ref q_t_markMany, .ref q_t_takes, .ref q_t_puts, .ref q_t_goes, .ref q_t_closes, .int F_bytes, .ref q_t_text, .int F_position, .int F_tokenAt, .long F_token, .int F_digits, .int F_number, .int F_faultAt, .int F_readMany, .ref q_t_read, .int F_size, .ref q_t_row, .ref q_t_partner, .ref q_t_some, .ref q_t_stackCome, .ref q_t_stackSince, .ref q_t_stackLetter, .int F_stacked, .int F_come, .int F_since, .ref q_t_runs, .ref q_t_ways, .ref q_t_keptRuns, .ref q_t_keptWays, .ref q_t_rel, .int F_known, .int F_isSpent, .ref q_t_whole, .ref q_t_wholeLong, .int F_wholes, .ref q_t_nodeCome, .ref q_t_nodeSince, .ref q_t_nodeDeep, .ref q_t_nodeLong, .int F_nodes, .int F_places, .ref q_t_wholeMany, .ref q_t_blockTo, .ref q_t_nodeMany, .ref q_t_listCome, .ref q_t_listSince, .int F_listed, .ref q_t_nextCome, .ref q_t_nextSince, .int F_nexts])), (q_t_row, .inl (cI, 24, .inl A_row))] sz) := by
  refine ms_ti (cc := cX12_letter) (maxL := 2) (ty := .int) (by decide) rfl (Nat.le_of_ble_eq_true rfl) ?_
  intro p e s m args below meth c Q A hx hb hml hown hts hK hP hD hS hA hRet ls hl
  have hl : lv_has ls 2 [(0, .ref q_t), (1, .int p0)] := hl
  have hown : s.vm.findClass RX12 = some m.cls := hown
  refine lv_iload_n hx hb dX12_letter_0 rfl (lv_at hl 1 rfl) ?_
  refine lv_iconst (v := 0) hx hb dX12_letter_1 (by decide) ?_
  refine lv_iconst (v := 5) hx hb dX12_letter_2 (by decide) ?_
  refine ms_cSi ⟨hx, hb, hml, hown, hts⟩ hK hP hD (c_X12_in l G cI cJ cZ p0 (0 : Int32) (5 : Int32) hw) gX12_letter_X12_in rfl nd_X12_in ⟨rfl, rfl⟩ rfl ⟨Nat.le_of_ble_eq_true rfl, Nat.le_of_ble_eq_true rfl⟩ hl.1 (rest := []) rfl (Nat.le_of_ble_eq_true rfl)  [] rfl rfl dX12_letter_3 (fun r1 hw => ?_)
  have zzr1 := hw.1
  have hw := hw.2
  refine lv_if_ne (tgt := 12) hx hb dX12_letter_6 (by decide) (fun c2 => ?_) (fun c2 => ?_)
  · have hw := hw.2 c2
    refine lv_aload_n hx hb dX12_letter_12 rfl (lv_at hl 0 rfl) ?_
    refine va_get (D := G) (ci := 12) (v := .int F_size) (C := RX12) (T := TX12) (N := 51) hx hb hts hkX12_letter_X12 hown hK hP 0 rfl rfl 16 (by decide) (hts (.fieldLink RX12 219 "NestReadersModel" "size" "I") hfX12_letter_219) (fun _ h9 => h9) rfl dX12_letter_13 ?_
    refine lv_bipush (v := (24)) hx hb dX12_letter_16 (by decide) ?_
    refine lv_icmp_ne (tgt := 24) hx hb dX12_letter_18 (by decide) (fun c3 => ?_) (fun c3 => ?_)
    · have hw := hw.2 c3
      refine lv_aload_n hx hb dX12_letter_24 rfl (lv_at hl 0 rfl) ?_
      refine va_get (D := G) (ci := 12) (v := .ref q_t_row) (C := RX12) (T := TX12) (N := 51) hx hb hts hkX12_letter_X12 hown hK hP 0 rfl rfl 17 (by decide) (hts (.fieldLink RX12 34 "NestReadersModel" "row" "[I") hfX12_letter_34) (fun _ h9 => h9) rfl dX12_letter_25 ?_
      refine lv_aload_n hx hb dX12_letter_28 rfl (lv_at hl 0 rfl) ?_
      refine va_get (D := G) (ci := 12) (v := .int F_size) (C := RX12) (T := TX12) (N := 51) hx hb hts hkX12_letter_X12 hown hK hP 0 rfl rfl 16 (by decide) (hts (.fieldLink RX12 219 "NestReadersModel" "size" "I") hfX12_letter_219) (fun _ h9 => h9) rfl dX12_letter_29 ?_
      refine lv_iload_n hx hb dX12_letter_32 rfl (lv_at hl 1 rfl) ?_
      refine ms_iast hx hb hK hP hD hS 1 0 rfl rfl hw.1 dX12_letter_33 (fun g4 H locs eg4 hP hD hS => ?_)
      have hw := hw.2 g4 eg4
      have hP : va_P G vwCl [(q_t, .inr (12, [.ref q_t_states, .ref q_t_markMany, .ref q_t_takes, .ref q_t_puts, .ref q_t_goes, .ref q_t_closes, .int F_bytes, .ref q_t_text, .int F_position, .int F_tokenAt, .long F_token, .int F_digits, .int F_number, .int F_faultAt, .int F_readMany, .ref q_t_read, .int F_size, .ref q_t_row, .ref q_t_partner, .ref q_t_some, .ref q_t_stackCome, .ref q_t_stackSince, .ref q_t_stackLetter, .int F_stacked, .int F_come, .int F_since, .ref q_t_runs, .ref q_t_ways, .ref q_t_keptRuns, .ref q_t_keptWays, .ref q_t_rel, .int F_known, .int F_isSpent, .ref q_t_whole, .ref q_t_wholeLong, .int F_wholes, .ref q_t_nodeCome, .ref q_t_nodeSince, .ref q_t_nodeDeep, .ref q_t_nodeLong, .int F_nodes, .int F_places, .ref q_t_wholeMany, .ref q_t_blockTo, .ref q_t_nodeMany, .ref q_t_listCome, .ref q_t_listSince, .int F_listed, .ref q_t_nextCome, .ref q_t_nextSince, .int F_nexts])), (q_t_row, .inl (cI, 24, .inl g4))] H := hP
      have hD : va_D A [(q_t, .inr (12, [.ref q_t_states, .ref q_t_markMany, .ref q_t_takes, .ref q_t_puts, .ref q_t_goes, .ref q_t_closes, .int F_bytes, .ref q_t_text, .int F_position, .int F_tokenAt, .long F_token, .int F_digits, .int F_number, .int F_faultAt, .int F_readMany, .ref q_t_read, .int F_size, .ref q_t_row, .ref q_t_partner, .ref q_t_some, .ref q_t_stackCome, .ref q_t_stackSince, .ref q_t_stackLetter, .int F_stacked, .int F_come, .int F_since, .ref q_t_runs, .ref q_t_ways, .ref q_t_keptRuns, .ref q_t_keptWays, .ref q_t_rel, .int F_known, .int F_isSpent, .ref q_t_whole, .ref q_t_wholeLong, .int F_wholes, .ref q_t_nodeCome, .ref q_t_nodeSince, .ref q_t_nodeDeep, .ref q_t_nodeLong, .int F_nodes, .int F_places, .ref q_t_wholeMany, .ref q_t_blockTo, .ref q_t_nodeMany, .ref q_t_listCome, .ref q_t_listSince, .int F_listed, .ref q_t_nextCome, .ref q_t_nextSince, .int F_nexts])), (q_t_row, .inl (cI, 24, .inl g4))] := hD
      refine lv_aload_n hx hb dX12_letter_34 rfl (lv_at hl 0 rfl) ?_
      refine lv_dup hx hb dX12_letter_35 rfl ?_
      refine va_get (D := G) (ci := 12) (v := .int F_size) (C := RX12) (T := TX12) (N := 51) hx hb hts hkX12_letter_X12 hown hK hP 0 rfl rfl 16 (by decide) (hts (.fieldLink RX12 219 "NestReadersModel" "size" "I") hfX12_letter_219) (fun _ h9 => h9) rfl dX12_letter_36 ?_
      refine lv_iconst (v := 1) hx hb dX12_letter_39 (by decide) ?_
      refine lv_iadd hx hb dX12_letter_40 ?_
      refine lv_topi (fun x5 ex5 => ?_)
      have hw := hw x5 ex5
      refine va_put (D := G) (ci := 12) (v := .int x5) (ty := .int) (C := RX12) (T := TX12) (N := 51) hx hb hts hkX12_letter_X12 tyX12 tyX12_ok nmX12 hown hK hP hD hS 0 rfl rfl 16 (by decide) (hts (.fieldLink RX12 219 "NestReadersModel" "size" "I") hfX12_letter_219) (fun _ h9 => h9) rfl (by decide +kernel) rfl rfl (Nat.le_of_ble_eq_true rfl) dX12_letter_41 (fun H locs hP hD hS => ?_)
      have hP : va_P G vwCl [(q_t, .inr (12, [.ref q_t_states, .ref q_t_markMany, .ref q_t_takes, .ref q_t_puts, .ref q_t_goes, .ref q_t_closes, .int F_bytes, .ref q_t_text, .int F_position, .int F_tokenAt, .long F_token, .int F_digits, .int F_number, .int F_faultAt, .int F_readMany, .ref q_t_read, .int x5, .ref q_t_row, .ref q_t_partner, .ref q_t_some, .ref q_t_stackCome, .ref q_t_stackSince, .ref q_t_stackLetter, .int F_stacked, .int F_come, .int F_since, .ref q_t_runs, .ref q_t_ways, .ref q_t_keptRuns, .ref q_t_keptWays, .ref q_t_rel, .int F_known, .int F_isSpent, .ref q_t_whole, .ref q_t_wholeLong, .int F_wholes, .ref q_t_nodeCome, .ref q_t_nodeSince, .ref q_t_nodeDeep, .ref q_t_nodeLong, .int F_nodes, .int F_places, .ref q_t_wholeMany, .ref q_t_blockTo, .ref q_t_nodeMany, .ref q_t_listCome, .ref q_t_listSince, .int F_listed, .ref q_t_nextCome, .ref q_t_nextSince, .int F_nexts])), (q_t_row, .inl (cI, 24, .inl g4))] H := hP
      have hD : va_D A [(q_t, .inr (12, [.ref q_t_states, .ref q_t_markMany, .ref q_t_takes, .ref q_t_puts, .ref q_t_goes, .ref q_t_closes, .int F_bytes, .ref q_t_text, .int F_position, .int F_tokenAt, .long F_token, .int F_digits, .int F_number, .int F_faultAt, .int F_readMany, .ref q_t_read, .int x5, .ref q_t_row, .ref q_t_partner, .ref q_t_some, .ref q_t_stackCome, .ref q_t_stackSince, .ref q_t_stackLetter, .int F_stacked, .int F_come, .int F_since, .ref q_t_runs, .ref q_t_ways, .ref q_t_keptRuns, .ref q_t_keptWays, .ref q_t_rel, .int F_known, .int F_isSpent, .ref q_t_whole, .ref q_t_wholeLong, .int F_wholes, .ref q_t_nodeCome, .ref q_t_nodeSince, .ref q_t_nodeDeep, .ref q_t_nodeLong, .int F_nodes, .int F_places, .ref q_t_wholeMany, .ref q_t_blockTo, .ref q_t_nodeMany, .ref q_t_listCome, .ref q_t_listSince, .int F_listed, .ref q_t_nextCome, .ref q_t_nextSince, .int F_nexts])), (q_t_row, .inl (cI, 24, .inl g4))] := hD
      refine lv_aload_n hx hb dX12_letter_44 rfl (lv_at hl 0 rfl) ?_
      refine va_get (D := G) (ci := 12) (v := .int x5) (C := RX12) (T := TX12) (N := 51) hx hb hts hkX12_letter_X12 hown hK hP 0 rfl rfl 16 (by decide) (hts (.fieldLink RX12 219 "NestReadersModel" "size" "I") hfX12_letter_219) (fun _ h9 => h9) rfl dX12_letter_45 ?_
      exact hRet x5 ⟨x5, g4⟩ H locs _ _ hw (vp_nar_int _) hP hD hS dX12_letter_48
    · have hw := hw.1 c3
      refine lv_bipush (v := (-5)) hx hb dX12_letter_21 (by decide) ?_
      exact hRet (-5 : Int32) ⟨F_size, A_row⟩ s.heap [] _ _ hw (vp_nar_int _) hP hD hS dX12_letter_23
  · have hw := hw.1 c2
    refine lv_bipush (v := (-2)) hx hb dX12_letter_9 (by decide) ?_
    exact hRet (-2 : Int32) ⟨F_size, A_row⟩ s.heap [] _ _ hw (vp_nar_int _) hP hD hS dX12_letter_11
def wX12_row_L51 (p0 : Int64) (p1 : Int32) (E51 : Int32 → (Nat → Int32) → Prop) (i51_4 : Int32) (A_row_51 : Nat → Int32) : Prop :=
  ∀ P51 : Int32 → (Nat → Int32) → Prop, (∀ (i51_4 : Int32) (A_row_51 : Nat → Int32), ((p1 ≤ i51_4 → E51 i51_4 A_row_51) ∧ (¬ p1 ≤ i51_4 → (∀ x5 : Int32, x5 = (((p0 >>> ((((3 : Int32) * i51_4)).toInt64 &&& 63)) &&& (7 : Int64))).toInt32 → (vp_in i51_4 24 ∧ (∀ g6 : Nat → Int32, g6 = upd A_row_51 i51_4.toNatClampNeg x5 → (∀ x7 : Int32, x7 = i51_4 + (1 : Int32) → P51 x7 g6)))))) → P51 i51_4 A_row_51) → P51 i51_4 A_row_51
def wX12_row_L16 (p0 : Int64) (p1 : Int32) (F_size : Int32) (A_row : Nat → Int32) (K : Int32 → Int32 → (Nat → Int32) → Prop) (E16 : Int32 → Prop) (i16_4 : Int32) : Prop :=
  ∀ P16 : Int32 → Prop, (∀ (i16_4 : Int32), ((p1 ≤ i16_4 → E16 i16_4) ∧ (¬ p1 ≤ i16_4 → (((lg_cmp ((p0 >>> ((((3 : Int32) * i16_4)).toInt64 &&& 63)) &&& (7 : Int64)) (5 : Int64)) ≤ (0 : Int32) → (∀ x9 : Int32, x9 = i16_4 + (1 : Int32) → P16 x9)) ∧ (¬ (lg_cmp ((p0 >>> ((((3 : Int32) * i16_4)).toInt64 &&& 63)) &&& (7 : Int64)) (5 : Int64)) ≤ (0 : Int32) → K (-2 : Int32) F_size A_row)))) → P16 i16_4) → P16 i16_4
def wX12_row (p0 : Int64) (p1 : Int32) (F_size : Int32) (A_row : Nat → Int32) (K : Int32 → Int32 → (Nat → Int32) → Prop) : Prop :=
  (wX12_in p1 (0 : Int32) (20 : Int32) (fun r1 => ((r1 = (0 : Int32) → K (-3 : Int32) F_size A_row) ∧ (¬ r1 = (0 : Int32) → (wX12_row_L16 p0 p1 F_size A_row K (fun i16_4 => (wX12_row_L51 p0 p1 (fun i51_4 A_row_51 => K (1 : Int32) p1 A_row_51) (0 : Int32) A_row)) (0 : Int32))))))
abbrev rmX12_row : Room := { frames := 1, cells := 0, slots := 0, locals := 22 }
theorem nd_X12_row : yX12_row.cls = RX12 ∧ yX12_row.cls ≠ "java/lang/invoke/MethodHandle" ∧ yX12_row.cls ≠ "java/lang/invoke/VarHandle" ∧ (parseMethodDescriptor yX12_row.desc).map (fun d => d.parameters.length) = some 2 := by decide +kernel
theorem hkX12_row_X12 : ∀ w ∈ u_ws RX12 TX12 51, w ∈ wsX12_row := fun w h => List.mem_cons_of_mem _ (inlX12 w h)
theorem hfX12_row_219 : (Cond.fieldLink RX12 219 "NestReadersModel" "size" "I") ∈ wsX12_row := List.mem_cons_of_mem _ m24_5
theorem hfX12_row_34 : (Cond.fieldLink RX12 34 "NestReadersModel" "row" "[I") ∈ wsX12_row := List.mem_cons_of_mem _ m9_4
theorem hfX12_row_222 : (Cond.constantLong RX12 222 (7)) ∈ wsX12_row := List.mem_cons_of_mem _ m24_22
theorem hfX12_row_224 : (Cond.constantLong RX12 224 (5)) ∈ wsX12_row := List.mem_cons_of_mem _ m24_23
set_option maxHeartbeats 4000000 in
set_option maxRecDepth 100000 in
theorem c_X12_row (l : Launch) (G : va_G) (cI cJ cZ : ClassId) (q_t q_t_states q_t_markMany q_t_takes q_t_puts q_t_goes q_t_closes q_t_text q_t_read q_t_row q_t_partner q_t_some q_t_stackCome q_t_stackSince q_t_stackLetter q_t_runs q_t_ways q_t_keptRuns q_t_keptWays q_t_rel q_t_whole q_t_wholeLong q_t_nodeCome q_t_nodeSince q_t_nodeDeep q_t_nodeLong q_t_wholeMany q_t_blockTo q_t_nodeMany q_t_listCome q_t_listSince q_t_nextCome q_t_nextSince : Nat) (sz : Nat) (F_bytes : Int32) (F_position : Int32) (F_tokenAt : Int32) (F_token : Int64) (F_digits : Int32) (F_number : Int32) (F_faultAt : Int32) (F_readMany : Int32) (F_size : Int32) (F_stacked : Int32) (F_come : Int32) (F_since : Int32) (F_known : Int32) (F_isSpent : Int32) (F_wholes : Int32) (F_nodes : Int32) (F_places : Int32) (F_listed : Int32) (F_nexts : Int32) (A_row : Nat → Int32) (p0 : Int64) (p1 : Int32) {K : Int32 → Int32 → (Nat → Int32) → Prop} (hw : wX12_row p0 p1 F_size A_row K) : Met l yX12_row wsX12_row rmX12_row (ms_Pz G (ms_T cI cJ cZ) [(q_t, .inr (12, [.ref q_t_states, .ref q_t_markMany, .ref q_t_takes, .ref q_t_puts, .ref q_t_goes, .ref q_t_closes, .int F_bytes, .ref q_t_text, .int F_position, .int F_tokenAt, .long F_token, .int F_digits, .int F_number, .int F_faultAt, .int F_readMany, .ref q_t_read, .int F_size, .ref q_t_row, .ref q_t_partner, .ref q_t_some, .ref q_t_stackCome, .ref q_t_stackSince, .ref q_t_stackLetter, .int F_stacked, .int F_come, .int F_since, .ref q_t_runs, .ref q_t_ways, .ref q_t_keptRuns, .ref q_t_keptWays, .ref q_t_rel, .int F_known, .int F_isSpent, .ref q_t_whole, .ref q_t_wholeLong, .int F_wholes, .ref q_t_nodeCome, .ref q_t_nodeSince, .ref q_t_nodeDeep, .ref q_t_nodeLong, .int F_nodes, .int F_places, .ref q_t_wholeMany, .ref q_t_blockTo, .ref q_t_nodeMany, .ref q_t_listCome, .ref q_t_listSince, .int F_listed, .ref q_t_nextCome, .ref q_t_nextSince, .int F_nexts])), (q_t_row, .inl (cI, 24, .inl A_row))] sz [.ref q_t, .long p0, .int p1]) (ms_Wi G (ms_T cI cJ cZ) (fun (r : Int32) (u : Int32 × (Nat → Int32)) => K r u.1 u.2) (fun u : Int32 × (Nat → Int32) => [(q_t, .inr (12, [.ref q_t_states, .ref q_t_markMany, .ref q_t_takes, .ref q_t_puts, .ref q_t_goes, .ref q_t_closes, .int F_bytes, .ref q_t_text, .int F_position, .int F_tokenAt, .long F_token, .int F_digits, .int F_number, .int F_faultAt, .int F_readMany, .ref q_t_read, .int u.1, .ref q_t_row, .ref q_t_partner, .ref q_t_some, .ref q_t_stackCome, .ref q_t_stackSince, .ref q_t_stackLetter, .int F_stacked, .int F_come, .int F_since, .ref q_t_runs, .ref q_t_ways, .ref q_t_keptRuns, .ref q_t_keptWays, .ref q_t_rel, .int F_known, .int F_isSpent, .ref q_t_whole, .ref q_t_wholeLong, .int F_wholes, .ref q_t_nodeCome, .ref q_t_nodeSince, .ref q_t_nodeDeep, .ref q_t_nodeLong, .int F_nodes, .int F_places, .ref q_t_wholeMany, .ref q_t_blockTo, .ref q_t_nodeMany, .ref q_t_listCome, .ref q_t_listSince, .int F_listed, .ref q_t_nextCome, .ref q_t_nextSince, .int F_nexts])), (q_t_row, .inl (cI, 24, .inl u.2))]) (va_A [(q_t, .inr (12, [.ref q_t_states, .ref q_t_markMany, .ref q_t_takes, .ref q_t_puts, .ref q_t_goes, .ref q_t_closes, .int F_bytes, .ref q_t_text, .int F_position, .int F_tokenAt, .long F_token, .int F_digits, .int F_number, .int F_faultAt, .int F_readMany, .ref q_t_read, .int F_size, .ref q_t_row, .ref q_t_partner, .ref q_t_some, .ref q_t_stackCome, .ref q_t_stackSince, .ref q_t_stackLetter, .int F_stacked, .int F_come, .int F_since, .ref q_t_runs, .ref q_t_ways, .ref q_t_keptRuns, .ref q_t_keptWays, .ref q_t_rel, .int F_known, .int F_isSpent, .ref q_t_whole, .ref q_t_wholeLong, .int F_wholes, .ref q_t_nodeCome, .ref q_t_nodeSince, .ref q_t_nodeDeep, .ref q_t_nodeLong, .int F_nodes, .int F_places, .ref q_t_wholeMany, .ref q_t_blockTo, .ref q_t_nodeMany, .ref q_t_listCome, .ref q_t_listSince, .int F_listed, .ref q_t_nextCome, .ref q_t_nextSince, .int F_nexts])), (q_t_row, .inl (cI, 24, .inl A_row))] sz)) 0 0 (va_A [(q_t, .inr (12, [.ref q_t_states, .ref q_t_markMany, .ref q_t_takes, .ref q_t_puts, .ref q_t_goes, .ref q_t_closes, .int F_bytes, .ref q_t_text, .int F_position, .int F_tokenAt, .long F_token, .int F_digits, .int F_number, .int F_faultAt, .int F_readMany, .ref q_t_read, .int F_size, .ref q_t_row, .ref q_t_partner, .ref q_t_some, .ref q_t_stackCome, .ref q_t_stackSince, .ref q_t_stackLetter, .int F_stacked, .int F_come, .int F_since, .ref q_t_runs, .ref q_t_ways, .ref q_t_keptRuns, .ref q_t_keptWays, .ref q_t_rel, .int F_known, .int F_isSpent, .ref q_t_whole, .ref q_t_wholeLong, .int F_wholes, .ref q_t_nodeCome, .ref q_t_nodeSince, .ref q_t_nodeDeep, .ref q_t_nodeLong, .int F_nodes, .int F_places, .ref q_t_wholeMany, .ref q_t_blockTo, .ref q_t_nodeMany, .ref q_t_listCome, .ref q_t_listSince, .int F_listed, .ref q_t_nextCome, .ref q_t_nextSince, .int F_nexts])), (q_t_row, .inl (cI, 24, .inl A_row))] sz) := by
  refine ms_ti (cc := cX12_row) (maxL := 5) (ty := .int) (by decide) rfl (Nat.le_of_ble_eq_true rfl) ?_
  intro p e s m args below meth c Q A hx hb hml hown hts hK hP hD hS hA hRet ls hl
  have hl : lv_has ls 5 [(0, .ref q_t), (1, .long p0), (3, .int p1)] := hl
  have hown : s.vm.findClass RX12 = some m.cls := hown
  refine lv_iload_n hx hb dX12_row_0 rfl (lv_at hl 2 rfl) ?_
  refine lv_iconst (v := 0) hx hb dX12_row_1 (by decide) ?_
  refine lv_bipush (v := (20)) hx hb dX12_row_2 (by decide) ?_
  refine ms_cSi ⟨hx, hb, hml, hown, hts⟩ hK hP hD (c_X12_in l G cI cJ cZ p1 (0 : Int32) (20 : Int32) hw) gX12_row_X12_in rfl nd_X12_in ⟨rfl, rfl⟩ rfl ⟨Nat.le_of_ble_eq_true rfl, Nat.le_of_ble_eq_true rfl⟩ hl.1 (rest := []) rfl (Nat.le_of_ble_eq_true rfl)  [] rfl rfl dX12_row_4 (fun r1 hw => ?_)
  have zzr1 := hw.1
  have hw := hw.2
  refine lv_if_ne (tgt := 13) hx hb dX12_row_7 (by decide) (fun c2 => ?_) (fun c2 => ?_)
  · have hw := hw.2 c2
    refine lv_iconst (v := 0) hx hb dX12_row_13 (by decide) ?_
    refine lv_istore (lv' := [(4, .int (0 : Int32)), (0, .ref q_t), (1, .long p0), (3, .int p1)]) hx hb dX12_row_14 hl (by decide) rfl (fun ls hl => ?_)
    refine hw (fun i16_4 => ∀ (H : Heap) (locs : List Loc), va_P G vwCl [(q_t, .inr (12, [.ref q_t_states, .ref q_t_markMany, .ref q_t_takes, .ref q_t_puts, .ref q_t_goes, .ref q_t_closes, .int F_bytes, .ref q_t_text, .int F_position, .int F_tokenAt, .long F_token, .int F_digits, .int F_number, .int F_faultAt, .int F_readMany, .ref q_t_read, .int F_size, .ref q_t_row, .ref q_t_partner, .ref q_t_some, .ref q_t_stackCome, .ref q_t_stackSince, .ref q_t_stackLetter, .int F_stacked, .int F_come, .int F_since, .ref q_t_runs, .ref q_t_ways, .ref q_t_keptRuns, .ref q_t_keptWays, .ref q_t_rel, .int F_known, .int F_isSpent, .ref q_t_whole, .ref q_t_wholeLong, .int F_wholes, .ref q_t_nodeCome, .ref q_t_nodeSince, .ref q_t_nodeDeep, .ref q_t_nodeLong, .int F_nodes, .int F_places, .ref q_t_wholeMany, .ref q_t_blockTo, .ref q_t_nodeMany, .ref q_t_listCome, .ref q_t_listSince, .int F_listed, .ref q_t_nextCome, .ref q_t_nextSince, .int F_nexts])), (q_t_row, .inl (cI, 24, .inl A_row))] H → va_D A [(q_t, .inr (12, [.ref q_t_states, .ref q_t_markMany, .ref q_t_takes, .ref q_t_puts, .ref q_t_goes, .ref q_t_closes, .int F_bytes, .ref q_t_text, .int F_position, .int F_tokenAt, .long F_token, .int F_digits, .int F_number, .int F_faultAt, .int F_readMany, .ref q_t_read, .int F_size, .ref q_t_row, .ref q_t_partner, .ref q_t_some, .ref q_t_stackCome, .ref q_t_stackSince, .ref q_t_stackLetter, .int F_stacked, .int F_come, .int F_since, .ref q_t_runs, .ref q_t_ways, .ref q_t_keptRuns, .ref q_t_keptWays, .ref q_t_rel, .int F_known, .int F_isSpent, .ref q_t_whole, .ref q_t_wholeLong, .int F_wholes, .ref q_t_nodeCome, .ref q_t_nodeSince, .ref q_t_nodeDeep, .ref q_t_nodeLong, .int F_nodes, .int F_places, .ref q_t_wholeMany, .ref q_t_blockTo, .ref q_t_nodeMany, .ref q_t_listCome, .ref q_t_listSince, .int F_listed, .ref q_t_nextCome, .ref q_t_nextSince, .int F_nexts])), (q_t_row, .inl (cI, 24, .inl A_row))] → va_S A s.heap H locs → ∀ ls : Array Slot, lv_has ls 5 [(0, .ref q_t), (1, .long p0), (3, .int p1), (4, .int i16_4)] → W p l e rmX12_row s m args below meth c H locs 0 0 Q (F0 m 16 ls [])) (fun i16_4 hw H locs hP hD hS ls hl => ?_) s.heap [] hP hD hS ls (lv_sub hl [1, 2, 3, 0] rfl)
    refine lv_iload hx hb dX12_row_16 (lv_at hl 3 rfl) ?_
    refine lv_iload_n hx hb dX12_row_18 rfl (lv_at hl 2 rfl) ?_
    refine lv_icmp_ge (tgt := 48) hx hb dX12_row_19 (by decide) (fun c3 => ?_) (fun c3 => ?_)
    · have hw := hw.1 c3
      refine lv_iconst (v := 0) hx hb dX12_row_48 (by decide) ?_
      refine lv_istore (lv' := [(4, .int (0 : Int32)), (0, .ref q_t), (1, .long p0), (3, .int p1)]) hx hb dX12_row_49 hl (by decide) rfl (fun ls hl => ?_)
      refine hw (fun i51_4 A_row_51 => ∀ (H : Heap) (locs : List Loc), va_P G vwCl [(q_t, .inr (12, [.ref q_t_states, .ref q_t_markMany, .ref q_t_takes, .ref q_t_puts, .ref q_t_goes, .ref q_t_closes, .int F_bytes, .ref q_t_text, .int F_position, .int F_tokenAt, .long F_token, .int F_digits, .int F_number, .int F_faultAt, .int F_readMany, .ref q_t_read, .int F_size, .ref q_t_row, .ref q_t_partner, .ref q_t_some, .ref q_t_stackCome, .ref q_t_stackSince, .ref q_t_stackLetter, .int F_stacked, .int F_come, .int F_since, .ref q_t_runs, .ref q_t_ways, .ref q_t_keptRuns, .ref q_t_keptWays, .ref q_t_rel, .int F_known, .int F_isSpent, .ref q_t_whole, .ref q_t_wholeLong, .int F_wholes, .ref q_t_nodeCome, .ref q_t_nodeSince, .ref q_t_nodeDeep, .ref q_t_nodeLong, .int F_nodes, .int F_places, .ref q_t_wholeMany, .ref q_t_blockTo, .ref q_t_nodeMany, .ref q_t_listCome, .ref q_t_listSince, .int F_listed, .ref q_t_nextCome, .ref q_t_nextSince, .int F_nexts])), (q_t_row, .inl (cI, 24, .inl A_row_51))] H → va_D A [(q_t, .inr (12, [.ref q_t_states, .ref q_t_markMany, .ref q_t_takes, .ref q_t_puts, .ref q_t_goes, .ref q_t_closes, .int F_bytes, .ref q_t_text, .int F_position, .int F_tokenAt, .long F_token, .int F_digits, .int F_number, .int F_faultAt, .int F_readMany, .ref q_t_read, .int F_size, .ref q_t_row, .ref q_t_partner, .ref q_t_some, .ref q_t_stackCome, .ref q_t_stackSince, .ref q_t_stackLetter, .int F_stacked, .int F_come, .int F_since, .ref q_t_runs, .ref q_t_ways, .ref q_t_keptRuns, .ref q_t_keptWays, .ref q_t_rel, .int F_known, .int F_isSpent, .ref q_t_whole, .ref q_t_wholeLong, .int F_wholes, .ref q_t_nodeCome, .ref q_t_nodeSince, .ref q_t_nodeDeep, .ref q_t_nodeLong, .int F_nodes, .int F_places, .ref q_t_wholeMany, .ref q_t_blockTo, .ref q_t_nodeMany, .ref q_t_listCome, .ref q_t_listSince, .int F_listed, .ref q_t_nextCome, .ref q_t_nextSince, .int F_nexts])), (q_t_row, .inl (cI, 24, .inl A_row_51))] → va_S A s.heap H locs → ∀ ls : Array Slot, lv_has ls 5 [(0, .ref q_t), (1, .long p0), (3, .int p1), (4, .int i51_4)] → W p l e rmX12_row s m args below meth c H locs 0 0 Q (F0 m 51 ls [])) (fun i51_4 A_row_51 hw H locs hP hD hS ls hl => ?_) H locs hP hD hS ls (lv_sub hl [1, 2, 3, 0] rfl)
      refine lv_iload hx hb dX12_row_51 (lv_at hl 3 rfl) ?_
      refine lv_iload_n hx hb dX12_row_53 rfl (lv_at hl 2 rfl) ?_
      refine lv_icmp_ge (tgt := 81) hx hb dX12_row_54 (by decide) (fun c4 => ?_) (fun c4 => ?_)
      · have hw := hw.1 c4
        refine lv_aload_n hx hb dX12_row_81 rfl (lv_at hl 0 rfl) ?_
        refine lv_iload_n hx hb dX12_row_82 rfl (lv_at hl 2 rfl) ?_
        refine va_put (D := G) (ci := 12) (v := .int p1) (ty := .int) (C := RX12) (T := TX12) (N := 51) hx hb hts hkX12_row_X12 tyX12 tyX12_ok nmX12 hown hK hP hD hS 0 rfl rfl 16 (by decide) (hts (.fieldLink RX12 219 "NestReadersModel" "size" "I") hfX12_row_219) (fun _ h9 => h9) rfl (by decide +kernel) rfl rfl (Nat.le_of_ble_eq_true rfl) dX12_row_83 (fun H locs hP hD hS => ?_)
        have hP : va_P G vwCl [(q_t, .inr (12, [.ref q_t_states, .ref q_t_markMany, .ref q_t_takes, .ref q_t_puts, .ref q_t_goes, .ref q_t_closes, .int F_bytes, .ref q_t_text, .int F_position, .int F_tokenAt, .long F_token, .int F_digits, .int F_number, .int F_faultAt, .int F_readMany, .ref q_t_read, .int p1, .ref q_t_row, .ref q_t_partner, .ref q_t_some, .ref q_t_stackCome, .ref q_t_stackSince, .ref q_t_stackLetter, .int F_stacked, .int F_come, .int F_since, .ref q_t_runs, .ref q_t_ways, .ref q_t_keptRuns, .ref q_t_keptWays, .ref q_t_rel, .int F_known, .int F_isSpent, .ref q_t_whole, .ref q_t_wholeLong, .int F_wholes, .ref q_t_nodeCome, .ref q_t_nodeSince, .ref q_t_nodeDeep, .ref q_t_nodeLong, .int F_nodes, .int F_places, .ref q_t_wholeMany, .ref q_t_blockTo, .ref q_t_nodeMany, .ref q_t_listCome, .ref q_t_listSince, .int F_listed, .ref q_t_nextCome, .ref q_t_nextSince, .int F_nexts])), (q_t_row, .inl (cI, 24, .inl A_row_51))] H := hP
        have hD : va_D A [(q_t, .inr (12, [.ref q_t_states, .ref q_t_markMany, .ref q_t_takes, .ref q_t_puts, .ref q_t_goes, .ref q_t_closes, .int F_bytes, .ref q_t_text, .int F_position, .int F_tokenAt, .long F_token, .int F_digits, .int F_number, .int F_faultAt, .int F_readMany, .ref q_t_read, .int p1, .ref q_t_row, .ref q_t_partner, .ref q_t_some, .ref q_t_stackCome, .ref q_t_stackSince, .ref q_t_stackLetter, .int F_stacked, .int F_come, .int F_since, .ref q_t_runs, .ref q_t_ways, .ref q_t_keptRuns, .ref q_t_keptWays, .ref q_t_rel, .int F_known, .int F_isSpent, .ref q_t_whole, .ref q_t_wholeLong, .int F_wholes, .ref q_t_nodeCome, .ref q_t_nodeSince, .ref q_t_nodeDeep, .ref q_t_nodeLong, .int F_nodes, .int F_places, .ref q_t_wholeMany, .ref q_t_blockTo, .ref q_t_nodeMany, .ref q_t_listCome, .ref q_t_listSince, .int F_listed, .ref q_t_nextCome, .ref q_t_nextSince, .int F_nexts])), (q_t_row, .inl (cI, 24, .inl A_row_51))] := hD
        refine lv_iconst (v := 1) hx hb dX12_row_86 (by decide) ?_
        exact hRet (1 : Int32) ⟨p1, A_row_51⟩ H locs _ _ hw (vp_nar_int _) hP hD hS dX12_row_87
      · have hw := hw.2 c4
        refine lv_aload_n hx hb dX12_row_57 rfl (lv_at hl 0 rfl) ?_
        refine va_get (D := G) (ci := 12) (v := .ref q_t_row) (C := RX12) (T := TX12) (N := 51) hx hb hts hkX12_row_X12 hown hK hP 0 rfl rfl 17 (by decide) (hts (.fieldLink RX12 34 "NestReadersModel" "row" "[I") hfX12_row_34) (fun _ h9 => h9) rfl dX12_row_58 ?_
        refine lv_iload hx hb dX12_row_61 (lv_at hl 3 rfl) ?_
        refine lv_lload_n hx hb dX12_row_63 rfl (lv_at hl 1 rfl) ?_
        refine lv_iconst (v := 3) hx hb dX12_row_64 (by decide) ?_
        refine lv_iload hx hb dX12_row_65 (lv_at hl 3 rfl) ?_
        refine lv_imul hx hb dX12_row_67 ?_
        refine lv_lshr hx hb dX12_row_68 rfl ?_
        refine lv_ldc2 hx hb (v := (7)) hown (hts (.constantLong RX12 222 (7)) hfX12_row_222) dX12_row_69 ?_
        refine lv_land hx hb dX12_row_72 ?_
        refine lv_l2i hx hb dX12_row_73 rfl ?_
        refine lv_topi (fun x5 ex5 => ?_)
        have hw := hw x5 ex5
        refine ms_iast hx hb hK hP hD hS 1 0 rfl rfl hw.1 dX12_row_74 (fun g6 H locs eg6 hP hD hS => ?_)
        have hw := hw.2 g6 eg6
        have hP : va_P G vwCl [(q_t, .inr (12, [.ref q_t_states, .ref q_t_markMany, .ref q_t_takes, .ref q_t_puts, .ref q_t_goes, .ref q_t_closes, .int F_bytes, .ref q_t_text, .int F_position, .int F_tokenAt, .long F_token, .int F_digits, .int F_number, .int F_faultAt, .int F_readMany, .ref q_t_read, .int F_size, .ref q_t_row, .ref q_t_partner, .ref q_t_some, .ref q_t_stackCome, .ref q_t_stackSince, .ref q_t_stackLetter, .int F_stacked, .int F_come, .int F_since, .ref q_t_runs, .ref q_t_ways, .ref q_t_keptRuns, .ref q_t_keptWays, .ref q_t_rel, .int F_known, .int F_isSpent, .ref q_t_whole, .ref q_t_wholeLong, .int F_wholes, .ref q_t_nodeCome, .ref q_t_nodeSince, .ref q_t_nodeDeep, .ref q_t_nodeLong, .int F_nodes, .int F_places, .ref q_t_wholeMany, .ref q_t_blockTo, .ref q_t_nodeMany, .ref q_t_listCome, .ref q_t_listSince, .int F_listed, .ref q_t_nextCome, .ref q_t_nextSince, .int F_nexts])), (q_t_row, .inl (cI, 24, .inl g6))] H := hP
        have hD : va_D A [(q_t, .inr (12, [.ref q_t_states, .ref q_t_markMany, .ref q_t_takes, .ref q_t_puts, .ref q_t_goes, .ref q_t_closes, .int F_bytes, .ref q_t_text, .int F_position, .int F_tokenAt, .long F_token, .int F_digits, .int F_number, .int F_faultAt, .int F_readMany, .ref q_t_read, .int F_size, .ref q_t_row, .ref q_t_partner, .ref q_t_some, .ref q_t_stackCome, .ref q_t_stackSince, .ref q_t_stackLetter, .int F_stacked, .int F_come, .int F_since, .ref q_t_runs, .ref q_t_ways, .ref q_t_keptRuns, .ref q_t_keptWays, .ref q_t_rel, .int F_known, .int F_isSpent, .ref q_t_whole, .ref q_t_wholeLong, .int F_wholes, .ref q_t_nodeCome, .ref q_t_nodeSince, .ref q_t_nodeDeep, .ref q_t_nodeLong, .int F_nodes, .int F_places, .ref q_t_wholeMany, .ref q_t_blockTo, .ref q_t_nodeMany, .ref q_t_listCome, .ref q_t_listSince, .int F_listed, .ref q_t_nextCome, .ref q_t_nextSince, .int F_nexts])), (q_t_row, .inl (cI, 24, .inl g6))] := hD
        obtain ⟨x7, ex7⟩ : ∃ y : Int32, y = i51_4 + (1 : Int32) := ⟨_, rfl⟩
        have hw := hw x7 ex7
        refine lv_iinc (v := x7) (lv' := [(4, .int x7), (0, .ref q_t), (1, .long p0), (3, .int p1)]) hx hb dX12_row_75 hl (k := 3) rfl (by rw [ex7]; rfl) (by decide) rfl (fun ls hl => ?_)
        refine lv_goto (tgt := 51) hx hb dX12_row_78 (by decide) ?_
        exact hw H locs hP hD hS ls (lv_sub hl [1, 2, 3, 0] rfl)
    · have hw := hw.2 c3
      refine lv_lload_n hx hb dX12_row_22 rfl (lv_at hl 1 rfl) ?_
      refine lv_iconst (v := 3) hx hb dX12_row_23 (by decide) ?_
      refine lv_iload hx hb dX12_row_24 (lv_at hl 3 rfl) ?_
      refine lv_imul hx hb dX12_row_26 ?_
      refine lv_lshr hx hb dX12_row_27 rfl ?_
      refine lv_ldc2 hx hb (v := (7)) hown (hts (.constantLong RX12 222 (7)) hfX12_row_222) dX12_row_28 ?_
      refine lv_land hx hb dX12_row_31 ?_
      refine lv_ldc2 hx hb (v := (5)) hown (hts (.constantLong RX12 224 (5)) hfX12_row_224) dX12_row_32 ?_
      refine W.lcmp hx hb dX12_row_35 ?_
      refine lv_if_le (tgt := 42) hx hb dX12_row_36 (by decide) (fun c8 => ?_) (fun c8 => ?_)
      · have hw := hw.1 c8
        obtain ⟨x9, ex9⟩ : ∃ y : Int32, y = i16_4 + (1 : Int32) := ⟨_, rfl⟩
        have hw := hw x9 ex9
        refine lv_iinc (v := x9) (lv' := [(4, .int x9), (0, .ref q_t), (1, .long p0), (3, .int p1)]) hx hb dX12_row_42 hl (k := 3) rfl (by rw [ex9]; rfl) (by decide) rfl (fun ls hl => ?_)
        refine lv_goto (tgt := 16) hx hb dX12_row_45 (by decide) ?_
        exact hw H locs hP hD hS ls (lv_sub hl [1, 2, 3, 0] rfl)
      · have hw := hw.2 c8
        refine lv_bipush (v := (-2)) hx hb dX12_row_39 (by decide) ?_
        exact hRet (-2 : Int32) ⟨F_size, A_row⟩ H locs _ _ hw (vp_nar_int _) hP hD hS dX12_row_41
  · have hw := hw.1 c2
    refine lv_bipush (v := (-3)) hx hb dX12_row_10 (by decide) ?_
    exact hRet (-3 : Int32) ⟨F_size, A_row⟩ s.heap [] _ _ hw (vp_nar_int _) hP hD hS dX12_row_12
def wX12_findPartners_L4 (p0 : Int32) (A_row : Nat → Int32) (E4 : Int32 → Int32 → (Nat → Int32) → (Nat → Int32) → Prop) (i4_2 : Int32) (i4_3 : Int32) (A_partner_4 : Nat → Int32) (A_some_4 : Nat → Int32) : Prop :=
  ∀ P4 : Int32 → Int32 → (Nat → Int32) → (Nat → Int32) → Prop, (∀ (i4_2 : Int32) (i4_3 : Int32) (A_partner_4 : Nat → Int32) (A_some_4 : Nat → Int32), ((p0 ≤ i4_3 → E4 i4_2 i4_3 A_partner_4 A_some_4) ∧ (¬ p0 ≤ i4_3 → (vp_in i4_3 24 ∧ (∀ g2 : Nat → Int32, g2 = upd A_partner_4 i4_3.toNatClampNeg (-1 : Int32) → (vp_in i4_3 24 ∧ (((2 : Int32) ≤ (A_row i4_3.toNatClampNeg) → (vp_in i4_3 24 ∧ (((A_row i4_3.toNatClampNeg) ≤ (3 : Int32) → (∀ x5 : Int32, x5 = i4_3 + (1 : Int32) → P4 i4_2 x5 g2 A_some_4)) ∧ (¬ (A_row i4_3.toNatClampNeg) ≤ (3 : Int32) → ((i4_2 ≤ (0 : Int32) → (∀ x7 : Int32, x7 = i4_3 + (1 : Int32) → P4 i4_2 x7 g2 A_some_4)) ∧ (¬ i4_2 ≤ (0 : Int32) → (∀ x8 : Int32, x8 = i4_2 + (-1 : Int32) → (vp_in x8 24 ∧ (vp_in i4_3 24 ∧ (∀ g9 : Nat → Int32, g9 = upd g2 i4_3.toNatClampNeg (A_some_4 x8.toNatClampNeg) → (vp_in x8 24 ∧ (vp_in (A_some_4 x8.toNatClampNeg) 24 ∧ (∀ g10 : Nat → Int32, g10 = upd g9 (A_some_4 x8.toNatClampNeg).toNatClampNeg i4_3 → (∀ x11 : Int32, x11 = i4_3 + (1 : Int32) → P4 x8 x11 g10 A_some_4)))))))))))))) ∧ (¬ (2 : Int32) ≤ (A_row i4_3.toNatClampNeg) → (vp_in i4_2 24 ∧ (∀ g12 : Nat → Int32, g12 = upd A_some_4 i4_2.toNatClampNeg i4_3 → (∀ x13 : Int32, x13 = i4_2 + (1 : Int32) → (∀ x14 : Int32, x14 = i4_3 + (1 : Int32) → P4 x13 x14 g2 g12))))))))))) → P4 i4_2 i4_3 A_partner_4 A_some_4) → P4 i4_2 i4_3 A_partner_4 A_some_4
def wX12_findPartners (p0 : Int32) (A_row : Nat → Int32) (A_partner : Nat → Int32) (A_some : Nat → Int32) (K : Int32 → (Nat → Int32) → (Nat → Int32) → Prop) : Prop :=
  (wX12_findPartners_L4 p0 A_row (fun i4_2 i4_3 A_partner_4 A_some_4 => K i4_2 A_partner_4 A_some_4) (0 : Int32) (0 : Int32) A_partner A_some)
abbrev rmX12_findPartners : Room := { frames := 0, cells := 0, slots := 0, locals := 0 }
theorem nd_X12_findPartners : yX12_findPartners.cls = RX12 ∧ yX12_findPartners.cls ≠ "java/lang/invoke/MethodHandle" ∧ yX12_findPartners.cls ≠ "java/lang/invoke/VarHandle" ∧ (parseMethodDescriptor yX12_findPartners.desc).map (fun d => d.parameters.length) = some 1 := by decide +kernel
theorem hkX12_findPartners_X12 : ∀ w ∈ u_ws RX12 TX12 51, w ∈ wsX12_findPartners := fun w h => List.mem_cons_of_mem _ (inlX12 w h)
theorem hfX12_findPartners_37 : (Cond.fieldLink RX12 37 "NestReadersModel" "partner" "[I") ∈ wsX12_findPartners := List.mem_cons_of_mem _ m9_5
theorem hfX12_findPartners_34 : (Cond.fieldLink RX12 34 "NestReadersModel" "row" "[I") ∈ wsX12_findPartners := List.mem_cons_of_mem _ m9_4
theorem hfX12_findPartners_40 : (Cond.fieldLink RX12 40 "NestReadersModel" "some" "[I") ∈ wsX12_findPartners := List.mem_cons_of_mem _ m9_6
set_option maxHeartbeats 4000000 in
set_option maxRecDepth 100000 in
theorem c_X12_findPartners (l : Launch) (G : va_G) (cI cJ cZ : ClassId) (q_t q_t_states q_t_markMany q_t_takes q_t_puts q_t_goes q_t_closes q_t_text q_t_read q_t_row q_t_partner q_t_some q_t_stackCome q_t_stackSince q_t_stackLetter q_t_runs q_t_ways q_t_keptRuns q_t_keptWays q_t_rel q_t_whole q_t_wholeLong q_t_nodeCome q_t_nodeSince q_t_nodeDeep q_t_nodeLong q_t_wholeMany q_t_blockTo q_t_nodeMany q_t_listCome q_t_listSince q_t_nextCome q_t_nextSince : Nat) (sz : Nat) (F_bytes : Int32) (F_position : Int32) (F_tokenAt : Int32) (F_token : Int64) (F_digits : Int32) (F_number : Int32) (F_faultAt : Int32) (F_readMany : Int32) (F_size : Int32) (F_stacked : Int32) (F_come : Int32) (F_since : Int32) (F_known : Int32) (F_isSpent : Int32) (F_wholes : Int32) (F_nodes : Int32) (F_places : Int32) (F_listed : Int32) (F_nexts : Int32) (A_row : Nat → Int32) (A_partner : Nat → Int32) (A_some : Nat → Int32) (p0 : Int32) {K : Int32 → (Nat → Int32) → (Nat → Int32) → Prop} (hw : wX12_findPartners p0 A_row A_partner A_some K) : Met l yX12_findPartners wsX12_findPartners rmX12_findPartners (ms_Pz G (ms_T cI cJ cZ) [(q_t, .inr (12, [.ref q_t_states, .ref q_t_markMany, .ref q_t_takes, .ref q_t_puts, .ref q_t_goes, .ref q_t_closes, .int F_bytes, .ref q_t_text, .int F_position, .int F_tokenAt, .long F_token, .int F_digits, .int F_number, .int F_faultAt, .int F_readMany, .ref q_t_read, .int F_size, .ref q_t_row, .ref q_t_partner, .ref q_t_some, .ref q_t_stackCome, .ref q_t_stackSince, .ref q_t_stackLetter, .int F_stacked, .int F_come, .int F_since, .ref q_t_runs, .ref q_t_ways, .ref q_t_keptRuns, .ref q_t_keptWays, .ref q_t_rel, .int F_known, .int F_isSpent, .ref q_t_whole, .ref q_t_wholeLong, .int F_wholes, .ref q_t_nodeCome, .ref q_t_nodeSince, .ref q_t_nodeDeep, .ref q_t_nodeLong, .int F_nodes, .int F_places, .ref q_t_wholeMany, .ref q_t_blockTo, .ref q_t_nodeMany, .ref q_t_listCome, .ref q_t_listSince, .int F_listed, .ref q_t_nextCome, .ref q_t_nextSince, .int F_nexts])), (q_t_row, .inl (cI, 24, .inl A_row)), (q_t_partner, .inl (cI, 24, .inl A_partner)), (q_t_some, .inl (cI, 24, .inl A_some))] sz [.ref q_t, .int p0]) (ms_Wi G (ms_T cI cJ cZ) (fun (r : Int32) (u : (Nat → Int32) × (Nat → Int32)) => K r u.1 u.2) (fun u : (Nat → Int32) × (Nat → Int32) => [(q_t, .inr (12, [.ref q_t_states, .ref q_t_markMany, .ref q_t_takes, .ref q_t_puts, .ref q_t_goes, .ref q_t_closes, .int F_bytes, .ref q_t_text, .int F_position, .int F_tokenAt, .long F_token, .int F_digits, .int F_number, .int F_faultAt, .int F_readMany, .ref q_t_read, .int F_size, .ref q_t_row, .ref q_t_partner, .ref q_t_some, .ref q_t_stackCome, .ref q_t_stackSince, .ref q_t_stackLetter, .int F_stacked, .int F_come, .int F_since, .ref q_t_runs, .ref q_t_ways, .ref q_t_keptRuns, .ref q_t_keptWays, .ref q_t_rel, .int F_known, .int F_isSpent, .ref q_t_whole, .ref q_t_wholeLong, .int F_wholes, .ref q_t_nodeCome, .ref q_t_nodeSince, .ref q_t_nodeDeep, .ref q_t_nodeLong, .int F_nodes, .int F_places, .ref q_t_wholeMany, .ref q_t_blockTo, .ref q_t_nodeMany, .ref q_t_listCome, .ref q_t_listSince, .int F_listed, .ref q_t_nextCome, .ref q_t_nextSince, .int F_nexts])), (q_t_row, .inl (cI, 24, .inl A_row)), (q_t_partner, .inl (cI, 24, .inl u.1)), (q_t_some, .inl (cI, 24, .inl u.2))]) (va_A [(q_t, .inr (12, [.ref q_t_states, .ref q_t_markMany, .ref q_t_takes, .ref q_t_puts, .ref q_t_goes, .ref q_t_closes, .int F_bytes, .ref q_t_text, .int F_position, .int F_tokenAt, .long F_token, .int F_digits, .int F_number, .int F_faultAt, .int F_readMany, .ref q_t_read, .int F_size, .ref q_t_row, .ref q_t_partner, .ref q_t_some, .ref q_t_stackCome, .ref q_t_stackSince, .ref q_t_stackLetter, .int F_stacked, .int F_come, .int F_since, .ref q_t_runs, .ref q_t_ways, .ref q_t_keptRuns, .ref q_t_keptWays, .ref q_t_rel, .int F_known, .int F_isSpent, .ref q_t_whole, .ref q_t_wholeLong, .int F_wholes, .ref q_t_nodeCome, .ref q_t_nodeSince, .ref q_t_nodeDeep, .ref q_t_nodeLong, .int F_nodes, .int F_places, .ref q_t_wholeMany, .ref q_t_blockTo, .ref q_t_nodeMany, .ref q_t_listCome, .ref q_t_listSince, .int F_listed, .ref q_t_nextCome, .ref q_t_nextSince, .int F_nexts])), (q_t_row, .inl (cI, 24, .inl A_row)), (q_t_partner, .inl (cI, 24, .inl A_partner)), (q_t_some, .inl (cI, 24, .inl A_some))] sz)) 0 0 (va_A [(q_t, .inr (12, [.ref q_t_states, .ref q_t_markMany, .ref q_t_takes, .ref q_t_puts, .ref q_t_goes, .ref q_t_closes, .int F_bytes, .ref q_t_text, .int F_position, .int F_tokenAt, .long F_token, .int F_digits, .int F_number, .int F_faultAt, .int F_readMany, .ref q_t_read, .int F_size, .ref q_t_row, .ref q_t_partner, .ref q_t_some, .ref q_t_stackCome, .ref q_t_stackSince, .ref q_t_stackLetter, .int F_stacked, .int F_come, .int F_since, .ref q_t_runs, .ref q_t_ways, .ref q_t_keptRuns, .ref q_t_keptWays, .ref q_t_rel, .int F_known, .int F_isSpent, .ref q_t_whole, .ref q_t_wholeLong, .int F_wholes, .ref q_t_nodeCome, .ref q_t_nodeSince, .ref q_t_nodeDeep, .ref q_t_nodeLong, .int F_nodes, .int F_places, .ref q_t_wholeMany, .ref q_t_blockTo, .ref q_t_nodeMany, .ref q_t_listCome, .ref q_t_listSince, .int F_listed, .ref q_t_nextCome, .ref q_t_nextSince, .int F_nexts])), (q_t_row, .inl (cI, 24, .inl A_row)), (q_t_partner, .inl (cI, 24, .inl A_partner)), (q_t_some, .inl (cI, 24, .inl A_some))] sz) := by
  refine ms_ti (cc := cX12_findPartners) (maxL := 4) (ty := .int) (by decide) rfl (Nat.le_of_ble_eq_true rfl) ?_
  intro p e s m args below meth c Q A hx hb hml hown hts hK hP hD hS hA hRet ls hl
  have hl : lv_has ls 4 [(0, .ref q_t), (1, .int p0)] := hl
  have hown : s.vm.findClass RX12 = some m.cls := hown
  refine lv_iconst (v := 0) hx hb dX12_findPartners_0 (by decide) ?_
  refine lv_istore_n (lv' := [(2, .int (0 : Int32)), (0, .ref q_t), (1, .int p0)]) hx hb dX12_findPartners_1 rfl hl (by decide) rfl (fun ls hl => ?_)
  refine lv_iconst (v := 0) hx hb dX12_findPartners_2 (by decide) ?_
  refine lv_istore_n (lv' := [(3, .int (0 : Int32)), (2, .int (0 : Int32)), (0, .ref q_t), (1, .int p0)]) hx hb dX12_findPartners_3 rfl hl (by decide) rfl (fun ls hl => ?_)
  refine hw (fun i4_2 i4_3 A_partner_4 A_some_4 => ∀ (H : Heap) (locs : List Loc), va_P G vwCl [(q_t, .inr (12, [.ref q_t_states, .ref q_t_markMany, .ref q_t_takes, .ref q_t_puts, .ref q_t_goes, .ref q_t_closes, .int F_bytes, .ref q_t_text, .int F_position, .int F_tokenAt, .long F_token, .int F_digits, .int F_number, .int F_faultAt, .int F_readMany, .ref q_t_read, .int F_size, .ref q_t_row, .ref q_t_partner, .ref q_t_some, .ref q_t_stackCome, .ref q_t_stackSince, .ref q_t_stackLetter, .int F_stacked, .int F_come, .int F_since, .ref q_t_runs, .ref q_t_ways, .ref q_t_keptRuns, .ref q_t_keptWays, .ref q_t_rel, .int F_known, .int F_isSpent, .ref q_t_whole, .ref q_t_wholeLong, .int F_wholes, .ref q_t_nodeCome, .ref q_t_nodeSince, .ref q_t_nodeDeep, .ref q_t_nodeLong, .int F_nodes, .int F_places, .ref q_t_wholeMany, .ref q_t_blockTo, .ref q_t_nodeMany, .ref q_t_listCome, .ref q_t_listSince, .int F_listed, .ref q_t_nextCome, .ref q_t_nextSince, .int F_nexts])), (q_t_row, .inl (cI, 24, .inl A_row)), (q_t_partner, .inl (cI, 24, .inl A_partner_4)), (q_t_some, .inl (cI, 24, .inl A_some_4))] H → va_D A [(q_t, .inr (12, [.ref q_t_states, .ref q_t_markMany, .ref q_t_takes, .ref q_t_puts, .ref q_t_goes, .ref q_t_closes, .int F_bytes, .ref q_t_text, .int F_position, .int F_tokenAt, .long F_token, .int F_digits, .int F_number, .int F_faultAt, .int F_readMany, .ref q_t_read, .int F_size, .ref q_t_row, .ref q_t_partner, .ref q_t_some, .ref q_t_stackCome, .ref q_t_stackSince, .ref q_t_stackLetter, .int F_stacked, .int F_come, .int F_since, .ref q_t_runs, .ref q_t_ways, .ref q_t_keptRuns, .ref q_t_keptWays, .ref q_t_rel, .int F_known, .int F_isSpent, .ref q_t_whole, .ref q_t_wholeLong, .int F_wholes, .ref q_t_nodeCome, .ref q_t_nodeSince, .ref q_t_nodeDeep, .ref q_t_nodeLong, .int F_nodes, .int F_places, .ref q_t_wholeMany, .ref q_t_blockTo, .ref q_t_nodeMany, .ref q_t_listCome, .ref q_t_listSince, .int F_listed, .ref q_t_nextCome, .ref q_t_nextSince, .int F_nexts])), (q_t_row, .inl (cI, 24, .inl A_row)), (q_t_partner, .inl (cI, 24, .inl A_partner_4)), (q_t_some, .inl (cI, 24, .inl A_some_4))] → va_S A s.heap H locs → ∀ ls : Array Slot, lv_has ls 4 [(0, .ref q_t), (1, .int p0), (2, .int i4_2), (3, .int i4_3)] → W p l e rmX12_findPartners s m args below meth c H locs 0 0 Q (F0 m 4 ls [])) (fun i4_2 i4_3 A_partner_4 A_some_4 hw H locs hP hD hS ls hl => ?_) s.heap [] hP hD hS ls (lv_sub hl [2, 3, 1, 0] rfl)
  refine lv_iload_n hx hb dX12_findPartners_4 rfl (lv_at hl 3 rfl) ?_
  refine lv_iload_n hx hb dX12_findPartners_5 rfl (lv_at hl 1 rfl) ?_
  refine lv_icmp_ge (tgt := 86) hx hb dX12_findPartners_6 (by decide) (fun c1 => ?_) (fun c1 => ?_)
  · have hw := hw.1 c1
    refine lv_iload_n hx hb dX12_findPartners_86 rfl (lv_at hl 2 rfl) ?_
    exact hRet i4_2 ⟨A_partner_4, A_some_4⟩ H locs _ _ hw (vp_nar_int _) hP hD hS dX12_findPartners_87
  · have hw := hw.2 c1
    refine lv_aload_n hx hb dX12_findPartners_9 rfl (lv_at hl 0 rfl) ?_
    refine va_get (D := G) (ci := 12) (v := .ref q_t_partner) (C := RX12) (T := TX12) (N := 51) hx hb hts hkX12_findPartners_X12 hown hK hP 0 rfl rfl 18 (by decide) (hts (.fieldLink RX12 37 "NestReadersModel" "partner" "[I") hfX12_findPartners_37) (fun _ h9 => h9) rfl dX12_findPartners_10 ?_
    refine lv_iload_n hx hb dX12_findPartners_13 rfl (lv_at hl 3 rfl) ?_
    refine lv_iconst (v := (-1)) hx hb dX12_findPartners_14 (by decide) ?_
    refine ms_iast hx hb hK hP hD hS 2 0 rfl rfl hw.1 dX12_findPartners_15 (fun g2 H locs eg2 hP hD hS => ?_)
    have hw := hw.2 g2 eg2
    have hP : va_P G vwCl [(q_t, .inr (12, [.ref q_t_states, .ref q_t_markMany, .ref q_t_takes, .ref q_t_puts, .ref q_t_goes, .ref q_t_closes, .int F_bytes, .ref q_t_text, .int F_position, .int F_tokenAt, .long F_token, .int F_digits, .int F_number, .int F_faultAt, .int F_readMany, .ref q_t_read, .int F_size, .ref q_t_row, .ref q_t_partner, .ref q_t_some, .ref q_t_stackCome, .ref q_t_stackSince, .ref q_t_stackLetter, .int F_stacked, .int F_come, .int F_since, .ref q_t_runs, .ref q_t_ways, .ref q_t_keptRuns, .ref q_t_keptWays, .ref q_t_rel, .int F_known, .int F_isSpent, .ref q_t_whole, .ref q_t_wholeLong, .int F_wholes, .ref q_t_nodeCome, .ref q_t_nodeSince, .ref q_t_nodeDeep, .ref q_t_nodeLong, .int F_nodes, .int F_places, .ref q_t_wholeMany, .ref q_t_blockTo, .ref q_t_nodeMany, .ref q_t_listCome, .ref q_t_listSince, .int F_listed, .ref q_t_nextCome, .ref q_t_nextSince, .int F_nexts])), (q_t_row, .inl (cI, 24, .inl A_row)), (q_t_partner, .inl (cI, 24, .inl g2)), (q_t_some, .inl (cI, 24, .inl A_some_4))] H := hP
    have hD : va_D A [(q_t, .inr (12, [.ref q_t_states, .ref q_t_markMany, .ref q_t_takes, .ref q_t_puts, .ref q_t_goes, .ref q_t_closes, .int F_bytes, .ref q_t_text, .int F_position, .int F_tokenAt, .long F_token, .int F_digits, .int F_number, .int F_faultAt, .int F_readMany, .ref q_t_read, .int F_size, .ref q_t_row, .ref q_t_partner, .ref q_t_some, .ref q_t_stackCome, .ref q_t_stackSince, .ref q_t_stackLetter, .int F_stacked, .int F_come, .int F_since, .ref q_t_runs, .ref q_t_ways, .ref q_t_keptRuns, .ref q_t_keptWays, .ref q_t_rel, .int F_known, .int F_isSpent, .ref q_t_whole, .ref q_t_wholeLong, .int F_wholes, .ref q_t_nodeCome, .ref q_t_nodeSince, .ref q_t_nodeDeep, .ref q_t_nodeLong, .int F_nodes, .int F_places, .ref q_t_wholeMany, .ref q_t_blockTo, .ref q_t_nodeMany, .ref q_t_listCome, .ref q_t_listSince, .int F_listed, .ref q_t_nextCome, .ref q_t_nextSince, .int F_nexts])), (q_t_row, .inl (cI, 24, .inl A_row)), (q_t_partner, .inl (cI, 24, .inl g2)), (q_t_some, .inl (cI, 24, .inl A_some_4))] := hD
    refine lv_aload_n hx hb dX12_findPartners_16 rfl (lv_at hl 0 rfl) ?_
    refine va_get (D := G) (ci := 12) (v := .ref q_t_row) (C := RX12) (T := TX12) (N := 51) hx hb hts hkX12_findPartners_X12 hown hK hP 0 rfl rfl 17 (by decide) (hts (.fieldLink RX12 34 "NestReadersModel" "row" "[I") hfX12_findPartners_34) (fun _ h9 => h9) rfl dX12_findPartners_17 ?_
    refine lv_iload_n hx hb dX12_findPartners_20 rfl (lv_at hl 3 rfl) ?_
    refine va_iald (D := G) hx hb hK hP 1 0 rfl rfl hw.1 dX12_findPartners_21 ?_
    have hw := hw.2
    refine lv_iconst (v := 2) hx hb dX12_findPartners_22 (by decide) ?_
    refine lv_icmp_ge (tgt := 39) hx hb dX12_findPartners_23 (by decide) (fun c3 => ?_) (fun c3 => ?_)
    · have hw := hw.1 c3
      refine lv_aload_n hx hb dX12_findPartners_39 rfl (lv_at hl 0 rfl) ?_
      refine va_get (D := G) (ci := 12) (v := .ref q_t_row) (C := RX12) (T := TX12) (N := 51) hx hb hts hkX12_findPartners_X12 hown hK hP 0 rfl rfl 17 (by decide) (hts (.fieldLink RX12 34 "NestReadersModel" "row" "[I") hfX12_findPartners_34) (fun _ h9 => h9) rfl dX12_findPartners_40 ?_
      refine lv_iload_n hx hb dX12_findPartners_43 rfl (lv_at hl 3 rfl) ?_
      refine va_iald (D := G) hx hb hK hP 1 0 rfl rfl hw.1 dX12_findPartners_44 ?_
      have hw := hw.2
      refine lv_iconst (v := 3) hx hb dX12_findPartners_45 (by decide) ?_
      refine lv_icmp_le (tgt := 80) hx hb dX12_findPartners_46 (by decide) (fun c4 => ?_) (fun c4 => ?_)
      · have hw := hw.1 c4
        obtain ⟨x5, ex5⟩ : ∃ y : Int32, y = i4_3 + (1 : Int32) := ⟨_, rfl⟩
        have hw := hw x5 ex5
        refine lv_iinc (v := x5) (lv' := [(3, .int x5), (0, .ref q_t), (1, .int p0), (2, .int i4_2)]) hx hb dX12_findPartners_80 hl (k := 3) rfl (by rw [ex5]; rfl) (by decide) rfl (fun ls hl => ?_)
        refine lv_goto (tgt := 4) hx hb dX12_findPartners_83 (by decide) ?_
        exact hw H locs hP hD hS ls (lv_sub hl [1, 2, 3, 0] rfl)
      · have hw := hw.2 c4
        refine lv_iload_n hx hb dX12_findPartners_49 rfl (lv_at hl 2 rfl) ?_
        refine lv_if_le (tgt := 80) hx hb dX12_findPartners_50 (by decide) (fun c6 => ?_) (fun c6 => ?_)
        · have hw := hw.1 c6
          obtain ⟨x7, ex7⟩ : ∃ y : Int32, y = i4_3 + (1 : Int32) := ⟨_, rfl⟩
          have hw := hw x7 ex7
          refine lv_iinc (v := x7) (lv' := [(3, .int x7), (0, .ref q_t), (1, .int p0), (2, .int i4_2)]) hx hb dX12_findPartners_80 hl (k := 3) rfl (by rw [ex7]; rfl) (by decide) rfl (fun ls hl => ?_)
          refine lv_goto (tgt := 4) hx hb dX12_findPartners_83 (by decide) ?_
          exact hw H locs hP hD hS ls (lv_sub hl [1, 2, 3, 0] rfl)
        · have hw := hw.2 c6
          obtain ⟨x8, ex8⟩ : ∃ y : Int32, y = i4_2 + (-1 : Int32) := ⟨_, rfl⟩
          have hw := hw x8 ex8
          refine lv_iinc (v := x8) (lv' := [(2, .int x8), (0, .ref q_t), (1, .int p0), (3, .int i4_3)]) hx hb dX12_findPartners_53 hl (k := 2) rfl (by rw [ex8]; rfl) (by decide) rfl (fun ls hl => ?_)
          refine lv_aload_n hx hb dX12_findPartners_56 rfl (lv_at hl 1 rfl) ?_
          refine va_get (D := G) (ci := 12) (v := .ref q_t_partner) (C := RX12) (T := TX12) (N := 51) hx hb hts hkX12_findPartners_X12 hown hK hP 0 rfl rfl 18 (by decide) (hts (.fieldLink RX12 37 "NestReadersModel" "partner" "[I") hfX12_findPartners_37) (fun _ h9 => h9) rfl dX12_findPartners_57 ?_
          refine lv_iload_n hx hb dX12_findPartners_60 rfl (lv_at hl 3 rfl) ?_
          refine lv_aload_n hx hb dX12_findPartners_61 rfl (lv_at hl 1 rfl) ?_
          refine va_get (D := G) (ci := 12) (v := .ref q_t_some) (C := RX12) (T := TX12) (N := 51) hx hb hts hkX12_findPartners_X12 hown hK hP 0 rfl rfl 19 (by decide) (hts (.fieldLink RX12 40 "NestReadersModel" "some" "[I") hfX12_findPartners_40) (fun _ h9 => h9) rfl dX12_findPartners_62 ?_
          refine lv_iload_n hx hb dX12_findPartners_65 rfl (lv_at hl 0 rfl) ?_
          refine va_iald (D := G) hx hb hK hP 3 0 rfl rfl hw.1 dX12_findPartners_66 ?_
          have hw := hw.2
          refine ms_iast hx hb hK hP hD hS 2 0 rfl rfl hw.1 dX12_findPartners_67 (fun g9 H locs eg9 hP hD hS => ?_)
          have hw := hw.2 g9 eg9
          have hP : va_P G vwCl [(q_t, .inr (12, [.ref q_t_states, .ref q_t_markMany, .ref q_t_takes, .ref q_t_puts, .ref q_t_goes, .ref q_t_closes, .int F_bytes, .ref q_t_text, .int F_position, .int F_tokenAt, .long F_token, .int F_digits, .int F_number, .int F_faultAt, .int F_readMany, .ref q_t_read, .int F_size, .ref q_t_row, .ref q_t_partner, .ref q_t_some, .ref q_t_stackCome, .ref q_t_stackSince, .ref q_t_stackLetter, .int F_stacked, .int F_come, .int F_since, .ref q_t_runs, .ref q_t_ways, .ref q_t_keptRuns, .ref q_t_keptWays, .ref q_t_rel, .int F_known, .int F_isSpent, .ref q_t_whole, .ref q_t_wholeLong, .int F_wholes, .ref q_t_nodeCome, .ref q_t_nodeSince, .ref q_t_nodeDeep, .ref q_t_nodeLong, .int F_nodes, .int F_places, .ref q_t_wholeMany, .ref q_t_blockTo, .ref q_t_nodeMany, .ref q_t_listCome, .ref q_t_listSince, .int F_listed, .ref q_t_nextCome, .ref q_t_nextSince, .int F_nexts])), (q_t_row, .inl (cI, 24, .inl A_row)), (q_t_partner, .inl (cI, 24, .inl g9)), (q_t_some, .inl (cI, 24, .inl A_some_4))] H := hP
          have hD : va_D A [(q_t, .inr (12, [.ref q_t_states, .ref q_t_markMany, .ref q_t_takes, .ref q_t_puts, .ref q_t_goes, .ref q_t_closes, .int F_bytes, .ref q_t_text, .int F_position, .int F_tokenAt, .long F_token, .int F_digits, .int F_number, .int F_faultAt, .int F_readMany, .ref q_t_read, .int F_size, .ref q_t_row, .ref q_t_partner, .ref q_t_some, .ref q_t_stackCome, .ref q_t_stackSince, .ref q_t_stackLetter, .int F_stacked, .int F_come, .int F_since, .ref q_t_runs, .ref q_t_ways, .ref q_t_keptRuns, .ref q_t_keptWays, .ref q_t_rel, .int F_known, .int F_isSpent, .ref q_t_whole, .ref q_t_wholeLong, .int F_wholes, .ref q_t_nodeCome, .ref q_t_nodeSince, .ref q_t_nodeDeep, .ref q_t_nodeLong, .int F_nodes, .int F_places, .ref q_t_wholeMany, .ref q_t_blockTo, .ref q_t_nodeMany, .ref q_t_listCome, .ref q_t_listSince, .int F_listed, .ref q_t_nextCome, .ref q_t_nextSince, .int F_nexts])), (q_t_row, .inl (cI, 24, .inl A_row)), (q_t_partner, .inl (cI, 24, .inl g9)), (q_t_some, .inl (cI, 24, .inl A_some_4))] := hD
          refine lv_aload_n hx hb dX12_findPartners_68 rfl (lv_at hl 1 rfl) ?_
          refine va_get (D := G) (ci := 12) (v := .ref q_t_partner) (C := RX12) (T := TX12) (N := 51) hx hb hts hkX12_findPartners_X12 hown hK hP 0 rfl rfl 18 (by decide) (hts (.fieldLink RX12 37 "NestReadersModel" "partner" "[I") hfX12_findPartners_37) (fun _ h9 => h9) rfl dX12_findPartners_69 ?_
          refine lv_aload_n hx hb dX12_findPartners_72 rfl (lv_at hl 1 rfl) ?_
          refine va_get (D := G) (ci := 12) (v := .ref q_t_some) (C := RX12) (T := TX12) (N := 51) hx hb hts hkX12_findPartners_X12 hown hK hP 0 rfl rfl 19 (by decide) (hts (.fieldLink RX12 40 "NestReadersModel" "some" "[I") hfX12_findPartners_40) (fun _ h9 => h9) rfl dX12_findPartners_73 ?_
          refine lv_iload_n hx hb dX12_findPartners_76 rfl (lv_at hl 0 rfl) ?_
          refine va_iald (D := G) hx hb hK hP 3 0 rfl rfl hw.1 dX12_findPartners_77 ?_
          have hw := hw.2
          refine lv_iload_n hx hb dX12_findPartners_78 rfl (lv_at hl 3 rfl) ?_
          refine ms_iast hx hb hK hP hD hS 2 0 rfl rfl hw.1 dX12_findPartners_79 (fun g10 H locs eg10 hP hD hS => ?_)
          have hw := hw.2 g10 eg10
          have hP : va_P G vwCl [(q_t, .inr (12, [.ref q_t_states, .ref q_t_markMany, .ref q_t_takes, .ref q_t_puts, .ref q_t_goes, .ref q_t_closes, .int F_bytes, .ref q_t_text, .int F_position, .int F_tokenAt, .long F_token, .int F_digits, .int F_number, .int F_faultAt, .int F_readMany, .ref q_t_read, .int F_size, .ref q_t_row, .ref q_t_partner, .ref q_t_some, .ref q_t_stackCome, .ref q_t_stackSince, .ref q_t_stackLetter, .int F_stacked, .int F_come, .int F_since, .ref q_t_runs, .ref q_t_ways, .ref q_t_keptRuns, .ref q_t_keptWays, .ref q_t_rel, .int F_known, .int F_isSpent, .ref q_t_whole, .ref q_t_wholeLong, .int F_wholes, .ref q_t_nodeCome, .ref q_t_nodeSince, .ref q_t_nodeDeep, .ref q_t_nodeLong, .int F_nodes, .int F_places, .ref q_t_wholeMany, .ref q_t_blockTo, .ref q_t_nodeMany, .ref q_t_listCome, .ref q_t_listSince, .int F_listed, .ref q_t_nextCome, .ref q_t_nextSince, .int F_nexts])), (q_t_row, .inl (cI, 24, .inl A_row)), (q_t_partner, .inl (cI, 24, .inl g10)), (q_t_some, .inl (cI, 24, .inl A_some_4))] H := hP
          have hD : va_D A [(q_t, .inr (12, [.ref q_t_states, .ref q_t_markMany, .ref q_t_takes, .ref q_t_puts, .ref q_t_goes, .ref q_t_closes, .int F_bytes, .ref q_t_text, .int F_position, .int F_tokenAt, .long F_token, .int F_digits, .int F_number, .int F_faultAt, .int F_readMany, .ref q_t_read, .int F_size, .ref q_t_row, .ref q_t_partner, .ref q_t_some, .ref q_t_stackCome, .ref q_t_stackSince, .ref q_t_stackLetter, .int F_stacked, .int F_come, .int F_since, .ref q_t_runs, .ref q_t_ways, .ref q_t_keptRuns, .ref q_t_keptWays, .ref q_t_rel, .int F_known, .int F_isSpent, .ref q_t_whole, .ref q_t_wholeLong, .int F_wholes, .ref q_t_nodeCome, .ref q_t_nodeSince, .ref q_t_nodeDeep, .ref q_t_nodeLong, .int F_nodes, .int F_places, .ref q_t_wholeMany, .ref q_t_blockTo, .ref q_t_nodeMany, .ref q_t_listCome, .ref q_t_listSince, .int F_listed, .ref q_t_nextCome, .ref q_t_nextSince, .int F_nexts])), (q_t_row, .inl (cI, 24, .inl A_row)), (q_t_partner, .inl (cI, 24, .inl g10)), (q_t_some, .inl (cI, 24, .inl A_some_4))] := hD
          obtain ⟨x11, ex11⟩ : ∃ y : Int32, y = i4_3 + (1 : Int32) := ⟨_, rfl⟩
          have hw := hw x11 ex11
          refine lv_iinc (v := x11) (lv' := [(3, .int x11), (2, .int x8), (0, .ref q_t), (1, .int p0)]) hx hb dX12_findPartners_80 hl (k := 3) rfl (by rw [ex11]; rfl) (by decide) rfl (fun ls hl => ?_)
          refine lv_goto (tgt := 4) hx hb dX12_findPartners_83 (by decide) ?_
          exact hw H locs hP hD hS ls (lv_sub hl [2, 3, 1, 0] rfl)
    · have hw := hw.2 c3
      refine lv_aload_n hx hb dX12_findPartners_26 rfl (lv_at hl 0 rfl) ?_
      refine va_get (D := G) (ci := 12) (v := .ref q_t_some) (C := RX12) (T := TX12) (N := 51) hx hb hts hkX12_findPartners_X12 hown hK hP 0 rfl rfl 19 (by decide) (hts (.fieldLink RX12 40 "NestReadersModel" "some" "[I") hfX12_findPartners_40) (fun _ h9 => h9) rfl dX12_findPartners_27 ?_
      refine lv_iload_n hx hb dX12_findPartners_30 rfl (lv_at hl 2 rfl) ?_
      refine lv_iload_n hx hb dX12_findPartners_31 rfl (lv_at hl 3 rfl) ?_
      refine ms_iast hx hb hK hP hD hS 3 0 rfl rfl hw.1 dX12_findPartners_32 (fun g12 H locs eg12 hP hD hS => ?_)
      have hw := hw.2 g12 eg12
      have hP : va_P G vwCl [(q_t, .inr (12, [.ref q_t_states, .ref q_t_markMany, .ref q_t_takes, .ref q_t_puts, .ref q_t_goes, .ref q_t_closes, .int F_bytes, .ref q_t_text, .int F_position, .int F_tokenAt, .long F_token, .int F_digits, .int F_number, .int F_faultAt, .int F_readMany, .ref q_t_read, .int F_size, .ref q_t_row, .ref q_t_partner, .ref q_t_some, .ref q_t_stackCome, .ref q_t_stackSince, .ref q_t_stackLetter, .int F_stacked, .int F_come, .int F_since, .ref q_t_runs, .ref q_t_ways, .ref q_t_keptRuns, .ref q_t_keptWays, .ref q_t_rel, .int F_known, .int F_isSpent, .ref q_t_whole, .ref q_t_wholeLong, .int F_wholes, .ref q_t_nodeCome, .ref q_t_nodeSince, .ref q_t_nodeDeep, .ref q_t_nodeLong, .int F_nodes, .int F_places, .ref q_t_wholeMany, .ref q_t_blockTo, .ref q_t_nodeMany, .ref q_t_listCome, .ref q_t_listSince, .int F_listed, .ref q_t_nextCome, .ref q_t_nextSince, .int F_nexts])), (q_t_row, .inl (cI, 24, .inl A_row)), (q_t_partner, .inl (cI, 24, .inl g2)), (q_t_some, .inl (cI, 24, .inl g12))] H := hP
      have hD : va_D A [(q_t, .inr (12, [.ref q_t_states, .ref q_t_markMany, .ref q_t_takes, .ref q_t_puts, .ref q_t_goes, .ref q_t_closes, .int F_bytes, .ref q_t_text, .int F_position, .int F_tokenAt, .long F_token, .int F_digits, .int F_number, .int F_faultAt, .int F_readMany, .ref q_t_read, .int F_size, .ref q_t_row, .ref q_t_partner, .ref q_t_some, .ref q_t_stackCome, .ref q_t_stackSince, .ref q_t_stackLetter, .int F_stacked, .int F_come, .int F_since, .ref q_t_runs, .ref q_t_ways, .ref q_t_keptRuns, .ref q_t_keptWays, .ref q_t_rel, .int F_known, .int F_isSpent, .ref q_t_whole, .ref q_t_wholeLong, .int F_wholes, .ref q_t_nodeCome, .ref q_t_nodeSince, .ref q_t_nodeDeep, .ref q_t_nodeLong, .int F_nodes, .int F_places, .ref q_t_wholeMany, .ref q_t_blockTo, .ref q_t_nodeMany, .ref q_t_listCome, .ref q_t_listSince, .int F_listed, .ref q_t_nextCome, .ref q_t_nextSince, .int F_nexts])), (q_t_row, .inl (cI, 24, .inl A_row)), (q_t_partner, .inl (cI, 24, .inl g2)), (q_t_some, .inl (cI, 24, .inl g12))] := hD
      obtain ⟨x13, ex13⟩ : ∃ y : Int32, y = i4_2 + (1 : Int32) := ⟨_, rfl⟩
      have hw := hw x13 ex13
      refine lv_iinc (v := x13) (lv' := [(2, .int x13), (0, .ref q_t), (1, .int p0), (3, .int i4_3)]) hx hb dX12_findPartners_33 hl (k := 2) rfl (by rw [ex13]; rfl) (by decide) rfl (fun ls hl => ?_)
      refine lv_goto (tgt := 80) hx hb dX12_findPartners_36 (by decide) ?_
      obtain ⟨x14, ex14⟩ : ∃ y : Int32, y = i4_3 + (1 : Int32) := ⟨_, rfl⟩
      have hw := hw x14 ex14
      refine lv_iinc (v := x14) (lv' := [(3, .int x14), (2, .int x13), (0, .ref q_t), (1, .int p0)]) hx hb dX12_findPartners_80 hl (k := 3) rfl (by rw [ex14]; rfl) (by decide) rfl (fun ls hl => ?_)
      refine lv_goto (tgt := 4) hx hb dX12_findPartners_83 (by decide) ?_
      exact hw H locs hP hD hS ls (lv_sub hl [2, 3, 1, 0] rfl)
def wX12_partner (p0 : Int32) (F_size : Int32) (A_row : Nat → Int32) (A_partner : Nat → Int32) (A_some : Nat → Int32) (K : Int32 → (Nat → Int32) → (Nat → Int32) → Prop) : Prop :=
  (wX12_in p0 (0 : Int32) (F_size - (1 : Int32)) (fun r1 => ((r1 = (0 : Int32) → K (-3 : Int32) A_partner A_some) ∧ (¬ r1 = (0 : Int32) → (wX12_findPartners F_size A_row A_partner A_some (fun r3 u4 u5 => (vp_in p0 24 ∧ K (u4 p0.toNatClampNeg) u4 u5)))))))
abbrev rmX12_partner : Room := { frames := 1, cells := 0, slots := 0, locals := 23 }
theorem nd_X12_partner : yX12_partner.cls = RX12 ∧ yX12_partner.cls ≠ "java/lang/invoke/MethodHandle" ∧ yX12_partner.cls ≠ "java/lang/invoke/VarHandle" ∧ (parseMethodDescriptor yX12_partner.desc).map (fun d => d.parameters.length) = some 1 := by decide +kernel
theorem hkX12_partner_X12 : ∀ w ∈ u_ws RX12 TX12 51, w ∈ wsX12_partner := fun w h => List.mem_cons_of_mem _ (inlX12 w h)
theorem hfX12_partner_219 : (Cond.fieldLink RX12 219 "NestReadersModel" "size" "I") ∈ wsX12_partner := List.mem_cons_of_mem _ m24_5
theorem hfX12_partner_37 : (Cond.fieldLink RX12 37 "NestReadersModel" "partner" "[I") ∈ wsX12_partner := List.mem_cons_of_mem _ m9_5
set_option maxHeartbeats 4000000 in
set_option maxRecDepth 100000 in
theorem c_X12_partner (l : Launch) (G : va_G) (cI cJ cZ : ClassId) (q_t q_t_states q_t_markMany q_t_takes q_t_puts q_t_goes q_t_closes q_t_text q_t_read q_t_row q_t_partner q_t_some q_t_stackCome q_t_stackSince q_t_stackLetter q_t_runs q_t_ways q_t_keptRuns q_t_keptWays q_t_rel q_t_whole q_t_wholeLong q_t_nodeCome q_t_nodeSince q_t_nodeDeep q_t_nodeLong q_t_wholeMany q_t_blockTo q_t_nodeMany q_t_listCome q_t_listSince q_t_nextCome q_t_nextSince : Nat) (sz : Nat) (F_bytes : Int32) (F_position : Int32) (F_tokenAt : Int32) (F_token : Int64) (F_digits : Int32) (F_number : Int32) (F_faultAt : Int32) (F_readMany : Int32) (F_size : Int32) (F_stacked : Int32) (F_come : Int32) (F_since : Int32) (F_known : Int32) (F_isSpent : Int32) (F_wholes : Int32) (F_nodes : Int32) (F_places : Int32) (F_listed : Int32) (F_nexts : Int32) (A_row : Nat → Int32) (A_partner : Nat → Int32) (A_some : Nat → Int32) (p0 : Int32) {K : Int32 → (Nat → Int32) → (Nat → Int32) → Prop} (hw : wX12_partner p0 F_size A_row A_partner A_some K) : Met l yX12_partner wsX12_partner rmX12_partner (ms_Pz G (ms_T cI cJ cZ) [(q_t, .inr (12, [.ref q_t_states, .ref q_t_markMany, .ref q_t_takes, .ref q_t_puts, .ref q_t_goes, .ref q_t_closes, .int F_bytes, .ref q_t_text, .int F_position, .int F_tokenAt, .long F_token, .int F_digits, .int F_number, .int F_faultAt, .int F_readMany, .ref q_t_read, .int F_size, .ref q_t_row, .ref q_t_partner, .ref q_t_some, .ref q_t_stackCome, .ref q_t_stackSince, .ref q_t_stackLetter, .int F_stacked, .int F_come, .int F_since, .ref q_t_runs, .ref q_t_ways, .ref q_t_keptRuns, .ref q_t_keptWays, .ref q_t_rel, .int F_known, .int F_isSpent, .ref q_t_whole, .ref q_t_wholeLong, .int F_wholes, .ref q_t_nodeCome, .ref q_t_nodeSince, .ref q_t_nodeDeep, .ref q_t_nodeLong, .int F_nodes, .int F_places, .ref q_t_wholeMany, .ref q_t_blockTo, .ref q_t_nodeMany, .ref q_t_listCome, .ref q_t_listSince, .int F_listed, .ref q_t_nextCome, .ref q_t_nextSince, .int F_nexts])), (q_t_row, .inl (cI, 24, .inl A_row)), (q_t_partner, .inl (cI, 24, .inl A_partner)), (q_t_some, .inl (cI, 24, .inl A_some))] sz [.ref q_t, .int p0]) (ms_Wi G (ms_T cI cJ cZ) (fun (r : Int32) (u : (Nat → Int32) × (Nat → Int32)) => K r u.1 u.2) (fun u : (Nat → Int32) × (Nat → Int32) => [(q_t, .inr (12, [.ref q_t_states, .ref q_t_markMany, .ref q_t_takes, .ref q_t_puts, .ref q_t_goes, .ref q_t_closes, .int F_bytes, .ref q_t_text, .int F_position, .int F_tokenAt, .long F_token, .int F_digits, .int F_number, .int F_faultAt, .int F_readMany, .ref q_t_read, .int F_size, .ref q_t_row, .ref q_t_partner, .ref q_t_some, .ref q_t_stackCome, .ref q_t_stackSince, .ref q_t_stackLetter, .int F_stacked, .int F_come, .int F_since, .ref q_t_runs, .ref q_t_ways, .ref q_t_keptRuns, .ref q_t_keptWays, .ref q_t_rel, .int F_known, .int F_isSpent, .ref q_t_whole, .ref q_t_wholeLong, .int F_wholes, .ref q_t_nodeCome, .ref q_t_nodeSince, .ref q_t_nodeDeep, .ref q_t_nodeLong, .int F_nodes, .int F_places, .ref q_t_wholeMany, .ref q_t_blockTo, .ref q_t_nodeMany, .ref q_t_listCome, .ref q_t_listSince, .int F_listed, .ref q_t_nextCome, .ref q_t_nextSince, .int F_nexts])), (q_t_row, .inl (cI, 24, .inl A_row)), (q_t_partner, .inl (cI, 24, .inl u.1)), (q_t_some, .inl (cI, 24, .inl u.2))]) (va_A [(q_t, .inr (12, [.ref q_t_states, .ref q_t_markMany, .ref q_t_takes, .ref q_t_puts, .ref q_t_goes, .ref q_t_closes, .int F_bytes, .ref q_t_text, .int F_position, .int F_tokenAt, .long F_token, .int F_digits, .int F_number, .int F_faultAt, .int F_readMany, .ref q_t_read, .int F_size, .ref q_t_row, .ref q_t_partner, .ref q_t_some, .ref q_t_stackCome, .ref q_t_stackSince, .ref q_t_stackLetter, .int F_stacked, .int F_come, .int F_since, .ref q_t_runs, .ref q_t_ways, .ref q_t_keptRuns, .ref q_t_keptWays, .ref q_t_rel, .int F_known, .int F_isSpent, .ref q_t_whole, .ref q_t_wholeLong, .int F_wholes, .ref q_t_nodeCome, .ref q_t_nodeSince, .ref q_t_nodeDeep, .ref q_t_nodeLong, .int F_nodes, .int F_places, .ref q_t_wholeMany, .ref q_t_blockTo, .ref q_t_nodeMany, .ref q_t_listCome, .ref q_t_listSince, .int F_listed, .ref q_t_nextCome, .ref q_t_nextSince, .int F_nexts])), (q_t_row, .inl (cI, 24, .inl A_row)), (q_t_partner, .inl (cI, 24, .inl A_partner)), (q_t_some, .inl (cI, 24, .inl A_some))] sz)) 0 0 (va_A [(q_t, .inr (12, [.ref q_t_states, .ref q_t_markMany, .ref q_t_takes, .ref q_t_puts, .ref q_t_goes, .ref q_t_closes, .int F_bytes, .ref q_t_text, .int F_position, .int F_tokenAt, .long F_token, .int F_digits, .int F_number, .int F_faultAt, .int F_readMany, .ref q_t_read, .int F_size, .ref q_t_row, .ref q_t_partner, .ref q_t_some, .ref q_t_stackCome, .ref q_t_stackSince, .ref q_t_stackLetter, .int F_stacked, .int F_come, .int F_since, .ref q_t_runs, .ref q_t_ways, .ref q_t_keptRuns, .ref q_t_keptWays, .ref q_t_rel, .int F_known, .int F_isSpent, .ref q_t_whole, .ref q_t_wholeLong, .int F_wholes, .ref q_t_nodeCome, .ref q_t_nodeSince, .ref q_t_nodeDeep, .ref q_t_nodeLong, .int F_nodes, .int F_places, .ref q_t_wholeMany, .ref q_t_blockTo, .ref q_t_nodeMany, .ref q_t_listCome, .ref q_t_listSince, .int F_listed, .ref q_t_nextCome, .ref q_t_nextSince, .int F_nexts])), (q_t_row, .inl (cI, 24, .inl A_row)), (q_t_partner, .inl (cI, 24, .inl A_partner)), (q_t_some, .inl (cI, 24, .inl A_some))] sz) := by
  refine ms_ti (cc := cX12_partner) (maxL := 2) (ty := .int) (by decide) rfl (Nat.le_of_ble_eq_true rfl) ?_
  intro p e s m args below meth c Q A hx hb hml hown hts hK hP hD hS hA hRet ls hl
  have hl : lv_has ls 2 [(0, .ref q_t), (1, .int p0)] := hl
  have hown : s.vm.findClass RX12 = some m.cls := hown
  refine lv_iload_n hx hb dX12_partner_0 rfl (lv_at hl 1 rfl) ?_
  refine lv_iconst (v := 0) hx hb dX12_partner_1 (by decide) ?_
  refine lv_aload_n hx hb dX12_partner_2 rfl (lv_at hl 0 rfl) ?_
  refine va_get (D := G) (ci := 12) (v := .int F_size) (C := RX12) (T := TX12) (N := 51) hx hb hts hkX12_partner_X12 hown hK hP 0 rfl rfl 16 (by decide) (hts (.fieldLink RX12 219 "NestReadersModel" "size" "I") hfX12_partner_219) (fun _ h9 => h9) rfl dX12_partner_3 ?_
  refine lv_iconst (v := 1) hx hb dX12_partner_6 (by decide) ?_
  refine lv_isub hx hb dX12_partner_7 ?_
  refine ms_cSi ⟨hx, hb, hml, hown, hts⟩ hK hP hD (c_X12_in l G cI cJ cZ p0 (0 : Int32) (F_size - (1 : Int32)) hw) gX12_partner_X12_in rfl nd_X12_in ⟨rfl, rfl⟩ rfl ⟨Nat.le_of_ble_eq_true rfl, Nat.le_of_ble_eq_true rfl⟩ hl.1 (rest := []) rfl (Nat.le_of_ble_eq_true rfl)  [] rfl rfl dX12_partner_8 (fun r1 hw => ?_)
  have zzr1 := hw.1
  have hw := hw.2
  refine lv_if_ne (tgt := 17) hx hb dX12_partner_11 (by decide) (fun c2 => ?_) (fun c2 => ?_)
  · have hw := hw.2 c2
    refine lv_aload_n hx hb dX12_partner_17 rfl (lv_at hl 0 rfl) ?_
    refine lv_aload_n hx hb dX12_partner_18 rfl (lv_at hl 0 rfl) ?_
    refine va_get (D := G) (ci := 12) (v := .int F_size) (C := RX12) (T := TX12) (N := 51) hx hb hts hkX12_partner_X12 hown hK hP 0 rfl rfl 16 (by decide) (hts (.fieldLink RX12 219 "NestReadersModel" "size" "I") hfX12_partner_219) (fun _ h9 => h9) rfl dX12_partner_19 ?_
    refine ms_mVi (wr := []) ⟨hx, hb, hml, hown, hts⟩ hK hP hD (c_X12_findPartners l G cI cJ cZ q_t q_t_states q_t_markMany q_t_takes q_t_puts q_t_goes q_t_closes q_t_text q_t_read q_t_row q_t_partner q_t_some q_t_stackCome q_t_stackSince q_t_stackLetter q_t_runs q_t_ways q_t_keptRuns q_t_keptWays q_t_rel q_t_whole q_t_wholeLong q_t_nodeCome q_t_nodeSince q_t_nodeDeep q_t_nodeLong q_t_wholeMany q_t_blockTo q_t_nodeMany q_t_listCome q_t_listSince q_t_nextCome q_t_nextSince s.heap.size F_bytes F_position F_tokenAt F_token F_digits F_number F_faultAt F_readMany F_size F_stacked F_come F_since F_known F_isSpent F_wholes F_nodes F_places F_listed F_nexts A_row A_partner A_some F_size hw) gX12_partner_X12_findPartners rfl nd_X12_findPartners (ci := 12) rfl rfl rfl ⟨rfl, rfl⟩ rfl ⟨Nat.le_of_ble_eq_true rfl, Nat.le_of_ble_eq_true rfl⟩ hl.1 (rest := []) rfl (Nat.le_of_ble_eq_true rfl)  hS hA [0, 1, 2, 3] [] rfl rfl rfl (by decide) rfl dX12_partner_22 (fun r3 u H locs hw hP hD hS => ?_)
    obtain ⟨u4, u5⟩ := u
    obtain ⟨hP, hD⟩ : ms_PD G A [(q_t, .inr (12, [.ref q_t_states, .ref q_t_markMany, .ref q_t_takes, .ref q_t_puts, .ref q_t_goes, .ref q_t_closes, .int F_bytes, .ref q_t_text, .int F_position, .int F_tokenAt, .long F_token, .int F_digits, .int F_number, .int F_faultAt, .int F_readMany, .ref q_t_read, .int F_size, .ref q_t_row, .ref q_t_partner, .ref q_t_some, .ref q_t_stackCome, .ref q_t_stackSince, .ref q_t_stackLetter, .int F_stacked, .int F_come, .int F_since, .ref q_t_runs, .ref q_t_ways, .ref q_t_keptRuns, .ref q_t_keptWays, .ref q_t_rel, .int F_known, .int F_isSpent, .ref q_t_whole, .ref q_t_wholeLong, .int F_wholes, .ref q_t_nodeCome, .ref q_t_nodeSince, .ref q_t_nodeDeep, .ref q_t_nodeLong, .int F_nodes, .int F_places, .ref q_t_wholeMany, .ref q_t_blockTo, .ref q_t_nodeMany, .ref q_t_listCome, .ref q_t_listSince, .int F_listed, .ref q_t_nextCome, .ref q_t_nextSince, .int F_nexts])), (q_t_row, .inl (cI, 24, .inl A_row)), (q_t_partner, .inl (cI, 24, .inl u4)), (q_t_some, .inl (cI, 24, .inl u5))] H := ms_PDsub hP hD [0, 1, 2, 3] (by decide +kernel) rfl
    refine lv_pop hx hb dX12_partner_25 rfl ?_
    refine lv_aload_n hx hb dX12_partner_26 rfl (lv_at hl 0 rfl) ?_
    refine va_get (D := G) (ci := 12) (v := .ref q_t_partner) (C := RX12) (T := TX12) (N := 51) hx hb hts hkX12_partner_X12 hown hK hP 0 rfl rfl 18 (by decide) (hts (.fieldLink RX12 37 "NestReadersModel" "partner" "[I") hfX12_partner_37) (fun _ h9 => h9) rfl dX12_partner_27 ?_
    refine lv_iload_n hx hb dX12_partner_30 rfl (lv_at hl 1 rfl) ?_
    refine va_iald (D := G) hx hb hK hP 2 0 rfl rfl hw.1 dX12_partner_31 ?_
    have hw := hw.2
    exact hRet (u4 p0.toNatClampNeg) ⟨u4, u5⟩ H locs _ _ hw (vp_nar_int _) hP hD hS dX12_partner_32
  · have hw := hw.1 c2
    refine lv_bipush (v := (-3)) hx hb dX12_partner_14 (by decide) ?_
    exact hRet (-3 : Int32) ⟨A_partner, A_some⟩ s.heap [] _ _ hw (vp_nar_int _) hP hD hS dX12_partner_16
def wX12_depth (p0 : Int32) (F_size : Int32) (A_row : Nat → Int32) (A_partner : Nat → Int32) (A_some : Nat → Int32) (K : Int32 → (Nat → Int32) → (Nat → Int32) → Prop) : Prop :=
  (wX12_in p0 (0 : Int32) F_size (fun r1 => ((r1 = (0 : Int32) → K (-3 : Int32) A_partner A_some) ∧ (¬ r1 = (0 : Int32) → (wX12_findPartners p0 A_row A_partner A_some (fun r3 u4 u5 => K r3 u4 u5))))))
abbrev rmX12_depth : Room := { frames := 1, cells := 0, slots := 0, locals := 23 }
theorem nd_X12_depth : yX12_depth.cls = RX12 ∧ yX12_depth.cls ≠ "java/lang/invoke/MethodHandle" ∧ yX12_depth.cls ≠ "java/lang/invoke/VarHandle" ∧ (parseMethodDescriptor yX12_depth.desc).map (fun d => d.parameters.length) = some 1 := by decide +kernel
theorem hkX12_depth_X12 : ∀ w ∈ u_ws RX12 TX12 51, w ∈ wsX12_depth := fun w h => List.mem_cons_of_mem _ (inlX12 w h)
theorem hfX12_depth_219 : (Cond.fieldLink RX12 219 "NestReadersModel" "size" "I") ∈ wsX12_depth := List.mem_cons_of_mem _ m24_5
set_option maxHeartbeats 4000000 in
set_option maxRecDepth 100000 in
theorem c_X12_depth (l : Launch) (G : va_G) (cI cJ cZ : ClassId) (q_t q_t_states q_t_markMany q_t_takes q_t_puts q_t_goes q_t_closes q_t_text q_t_read q_t_row q_t_partner q_t_some q_t_stackCome q_t_stackSince q_t_stackLetter q_t_runs q_t_ways q_t_keptRuns q_t_keptWays q_t_rel q_t_whole q_t_wholeLong q_t_nodeCome q_t_nodeSince q_t_nodeDeep q_t_nodeLong q_t_wholeMany q_t_blockTo q_t_nodeMany q_t_listCome q_t_listSince q_t_nextCome q_t_nextSince : Nat) (sz : Nat) (F_bytes : Int32) (F_position : Int32) (F_tokenAt : Int32) (F_token : Int64) (F_digits : Int32) (F_number : Int32) (F_faultAt : Int32) (F_readMany : Int32) (F_size : Int32) (F_stacked : Int32) (F_come : Int32) (F_since : Int32) (F_known : Int32) (F_isSpent : Int32) (F_wholes : Int32) (F_nodes : Int32) (F_places : Int32) (F_listed : Int32) (F_nexts : Int32) (A_row : Nat → Int32) (A_partner : Nat → Int32) (A_some : Nat → Int32) (p0 : Int32) {K : Int32 → (Nat → Int32) → (Nat → Int32) → Prop} (hw : wX12_depth p0 F_size A_row A_partner A_some K) : Met l yX12_depth wsX12_depth rmX12_depth (ms_Pz G (ms_T cI cJ cZ) [(q_t, .inr (12, [.ref q_t_states, .ref q_t_markMany, .ref q_t_takes, .ref q_t_puts, .ref q_t_goes, .ref q_t_closes, .int F_bytes, .ref q_t_text, .int F_position, .int F_tokenAt, .long F_token, .int F_digits, .int F_number, .int F_faultAt, .int F_readMany, .ref q_t_read, .int F_size, .ref q_t_row, .ref q_t_partner, .ref q_t_some, .ref q_t_stackCome, .ref q_t_stackSince, .ref q_t_stackLetter, .int F_stacked, .int F_come, .int F_since, .ref q_t_runs, .ref q_t_ways, .ref q_t_keptRuns, .ref q_t_keptWays, .ref q_t_rel, .int F_known, .int F_isSpent, .ref q_t_whole, .ref q_t_wholeLong, .int F_wholes, .ref q_t_nodeCome, .ref q_t_nodeSince, .ref q_t_nodeDeep, .ref q_t_nodeLong, .int F_nodes, .int F_places, .ref q_t_wholeMany, .ref q_t_blockTo, .ref q_t_nodeMany, .ref q_t_listCome, .ref q_t_listSince, .int F_listed, .ref q_t_nextCome, .ref q_t_nextSince, .int F_nexts])), (q_t_row, .inl (cI, 24, .inl A_row)), (q_t_partner, .inl (cI, 24, .inl A_partner)), (q_t_some, .inl (cI, 24, .inl A_some))] sz [.ref q_t, .int p0]) (ms_Wi G (ms_T cI cJ cZ) (fun (r : Int32) (u : (Nat → Int32) × (Nat → Int32)) => K r u.1 u.2) (fun u : (Nat → Int32) × (Nat → Int32) => [(q_t, .inr (12, [.ref q_t_states, .ref q_t_markMany, .ref q_t_takes, .ref q_t_puts, .ref q_t_goes, .ref q_t_closes, .int F_bytes, .ref q_t_text, .int F_position, .int F_tokenAt, .long F_token, .int F_digits, .int F_number, .int F_faultAt, .int F_readMany, .ref q_t_read, .int F_size, .ref q_t_row, .ref q_t_partner, .ref q_t_some, .ref q_t_stackCome, .ref q_t_stackSince, .ref q_t_stackLetter, .int F_stacked, .int F_come, .int F_since, .ref q_t_runs, .ref q_t_ways, .ref q_t_keptRuns, .ref q_t_keptWays, .ref q_t_rel, .int F_known, .int F_isSpent, .ref q_t_whole, .ref q_t_wholeLong, .int F_wholes, .ref q_t_nodeCome, .ref q_t_nodeSince, .ref q_t_nodeDeep, .ref q_t_nodeLong, .int F_nodes, .int F_places, .ref q_t_wholeMany, .ref q_t_blockTo, .ref q_t_nodeMany, .ref q_t_listCome, .ref q_t_listSince, .int F_listed, .ref q_t_nextCome, .ref q_t_nextSince, .int F_nexts])), (q_t_row, .inl (cI, 24, .inl A_row)), (q_t_partner, .inl (cI, 24, .inl u.1)), (q_t_some, .inl (cI, 24, .inl u.2))]) (va_A [(q_t, .inr (12, [.ref q_t_states, .ref q_t_markMany, .ref q_t_takes, .ref q_t_puts, .ref q_t_goes, .ref q_t_closes, .int F_bytes, .ref q_t_text, .int F_position, .int F_tokenAt, .long F_token, .int F_digits, .int F_number, .int F_faultAt, .int F_readMany, .ref q_t_read, .int F_size, .ref q_t_row, .ref q_t_partner, .ref q_t_some, .ref q_t_stackCome, .ref q_t_stackSince, .ref q_t_stackLetter, .int F_stacked, .int F_come, .int F_since, .ref q_t_runs, .ref q_t_ways, .ref q_t_keptRuns, .ref q_t_keptWays, .ref q_t_rel, .int F_known, .int F_isSpent, .ref q_t_whole, .ref q_t_wholeLong, .int F_wholes, .ref q_t_nodeCome, .ref q_t_nodeSince, .ref q_t_nodeDeep, .ref q_t_nodeLong, .int F_nodes, .int F_places, .ref q_t_wholeMany, .ref q_t_blockTo, .ref q_t_nodeMany, .ref q_t_listCome, .ref q_t_listSince, .int F_listed, .ref q_t_nextCome, .ref q_t_nextSince, .int F_nexts])), (q_t_row, .inl (cI, 24, .inl A_row)), (q_t_partner, .inl (cI, 24, .inl A_partner)), (q_t_some, .inl (cI, 24, .inl A_some))] sz)) 0 0 (va_A [(q_t, .inr (12, [.ref q_t_states, .ref q_t_markMany, .ref q_t_takes, .ref q_t_puts, .ref q_t_goes, .ref q_t_closes, .int F_bytes, .ref q_t_text, .int F_position, .int F_tokenAt, .long F_token, .int F_digits, .int F_number, .int F_faultAt, .int F_readMany, .ref q_t_read, .int F_size, .ref q_t_row, .ref q_t_partner, .ref q_t_some, .ref q_t_stackCome, .ref q_t_stackSince, .ref q_t_stackLetter, .int F_stacked, .int F_come, .int F_since, .ref q_t_runs, .ref q_t_ways, .ref q_t_keptRuns, .ref q_t_keptWays, .ref q_t_rel, .int F_known, .int F_isSpent, .ref q_t_whole, .ref q_t_wholeLong, .int F_wholes, .ref q_t_nodeCome, .ref q_t_nodeSince, .ref q_t_nodeDeep, .ref q_t_nodeLong, .int F_nodes, .int F_places, .ref q_t_wholeMany, .ref q_t_blockTo, .ref q_t_nodeMany, .ref q_t_listCome, .ref q_t_listSince, .int F_listed, .ref q_t_nextCome, .ref q_t_nextSince, .int F_nexts])), (q_t_row, .inl (cI, 24, .inl A_row)), (q_t_partner, .inl (cI, 24, .inl A_partner)), (q_t_some, .inl (cI, 24, .inl A_some))] sz) := by
  refine ms_ti (cc := cX12_depth) (maxL := 2) (ty := .int) (by decide) rfl (Nat.le_of_ble_eq_true rfl) ?_
  intro p e s m args below meth c Q A hx hb hml hown hts hK hP hD hS hA hRet ls hl
  have hl : lv_has ls 2 [(0, .ref q_t), (1, .int p0)] := hl
  have hown : s.vm.findClass RX12 = some m.cls := hown
  refine lv_iload_n hx hb dX12_depth_0 rfl (lv_at hl 1 rfl) ?_
  refine lv_iconst (v := 0) hx hb dX12_depth_1 (by decide) ?_
  refine lv_aload_n hx hb dX12_depth_2 rfl (lv_at hl 0 rfl) ?_
  refine va_get (D := G) (ci := 12) (v := .int F_size) (C := RX12) (T := TX12) (N := 51) hx hb hts hkX12_depth_X12 hown hK hP 0 rfl rfl 16 (by decide) (hts (.fieldLink RX12 219 "NestReadersModel" "size" "I") hfX12_depth_219) (fun _ h9 => h9) rfl dX12_depth_3 ?_
  refine ms_cSi ⟨hx, hb, hml, hown, hts⟩ hK hP hD (c_X12_in l G cI cJ cZ p0 (0 : Int32) F_size hw) gX12_depth_X12_in rfl nd_X12_in ⟨rfl, rfl⟩ rfl ⟨Nat.le_of_ble_eq_true rfl, Nat.le_of_ble_eq_true rfl⟩ hl.1 (rest := []) rfl (Nat.le_of_ble_eq_true rfl)  [] rfl rfl dX12_depth_6 (fun r1 hw => ?_)
  have zzr1 := hw.1
  have hw := hw.2
  refine lv_if_eq (tgt := 20) hx hb dX12_depth_9 (by decide) (fun c2 => ?_) (fun c2 => ?_)
  · have hw := hw.1 c2
    refine lv_bipush (v := (-3)) hx hb dX12_depth_20 (by decide) ?_
    exact hRet (-3 : Int32) ⟨A_partner, A_some⟩ s.heap [] _ _ hw (vp_nar_int _) hP hD hS dX12_depth_22
  · have hw := hw.2 c2
    refine lv_aload_n hx hb dX12_depth_12 rfl (lv_at hl 0 rfl) ?_
    refine lv_iload_n hx hb dX12_depth_13 rfl (lv_at hl 1 rfl) ?_
    refine ms_mVi (wr := []) ⟨hx, hb, hml, hown, hts⟩ hK hP hD (c_X12_findPartners l G cI cJ cZ q_t q_t_states q_t_markMany q_t_takes q_t_puts q_t_goes q_t_closes q_t_text q_t_read q_t_row q_t_partner q_t_some q_t_stackCome q_t_stackSince q_t_stackLetter q_t_runs q_t_ways q_t_keptRuns q_t_keptWays q_t_rel q_t_whole q_t_wholeLong q_t_nodeCome q_t_nodeSince q_t_nodeDeep q_t_nodeLong q_t_wholeMany q_t_blockTo q_t_nodeMany q_t_listCome q_t_listSince q_t_nextCome q_t_nextSince s.heap.size F_bytes F_position F_tokenAt F_token F_digits F_number F_faultAt F_readMany F_size F_stacked F_come F_since F_known F_isSpent F_wholes F_nodes F_places F_listed F_nexts A_row A_partner A_some p0 hw) gX12_depth_X12_findPartners rfl nd_X12_findPartners (ci := 12) rfl rfl rfl ⟨rfl, rfl⟩ rfl ⟨Nat.le_of_ble_eq_true rfl, Nat.le_of_ble_eq_true rfl⟩ hl.1 (rest := []) rfl (Nat.le_of_ble_eq_true rfl)  hS hA [0, 1, 2, 3] [] rfl rfl rfl (by decide) rfl dX12_depth_14 (fun r3 u H locs hw hP hD hS => ?_)
    obtain ⟨u4, u5⟩ := u
    obtain ⟨hP, hD⟩ : ms_PD G A [(q_t, .inr (12, [.ref q_t_states, .ref q_t_markMany, .ref q_t_takes, .ref q_t_puts, .ref q_t_goes, .ref q_t_closes, .int F_bytes, .ref q_t_text, .int F_position, .int F_tokenAt, .long F_token, .int F_digits, .int F_number, .int F_faultAt, .int F_readMany, .ref q_t_read, .int F_size, .ref q_t_row, .ref q_t_partner, .ref q_t_some, .ref q_t_stackCome, .ref q_t_stackSince, .ref q_t_stackLetter, .int F_stacked, .int F_come, .int F_since, .ref q_t_runs, .ref q_t_ways, .ref q_t_keptRuns, .ref q_t_keptWays, .ref q_t_rel, .int F_known, .int F_isSpent, .ref q_t_whole, .ref q_t_wholeLong, .int F_wholes, .ref q_t_nodeCome, .ref q_t_nodeSince, .ref q_t_nodeDeep, .ref q_t_nodeLong, .int F_nodes, .int F_places, .ref q_t_wholeMany, .ref q_t_blockTo, .ref q_t_nodeMany, .ref q_t_listCome, .ref q_t_listSince, .int F_listed, .ref q_t_nextCome, .ref q_t_nextSince, .int F_nexts])), (q_t_row, .inl (cI, 24, .inl A_row)), (q_t_partner, .inl (cI, 24, .inl u4)), (q_t_some, .inl (cI, 24, .inl u5))] H := ms_PDsub hP hD [0, 1, 2, 3] (by decide +kernel) rfl
    refine lv_goto (tgt := 22) hx hb dX12_depth_17 (by decide) ?_
    exact hRet r3 ⟨u4, u5⟩ H locs _ _ hw (vp_nar_int _) hP hD hS dX12_depth_22
def wX12_isOf (p0 : Int32) (p1 : Int32) (K : Int32 → Prop) : Prop :=
  ((p0 = (2 : Int32) → K (1 : Int32)) ∧ (¬ p0 = (2 : Int32) → ((p0 = p1 → K (1 : Int32)) ∧ (¬ p0 = p1 → K (0 : Int32)))))
abbrev rmX12_isOf : Room := { frames := 0, cells := 0, slots := 0, locals := 0 }
theorem nd_X12_isOf : yX12_isOf.cls ≠ "java/lang/invoke/MethodHandle" ∧ yX12_isOf.cls ≠ "java/lang/invoke/VarHandle" ∧ (parseMethodDescriptor yX12_isOf.desc).map (fun d => d.parameters.length) = some 2 := by decide +kernel
set_option maxHeartbeats 4000000 in
set_option maxRecDepth 100000 in
theorem c_X12_isOf (l : Launch) (G : va_G) (cI cJ cZ : ClassId) (p0 : Int32) (p1 : Int32) {K : Int32 → Prop} (hw : wX12_isOf p0 p1 K) : Met l yX12_isOf wsX12_isOf rmX12_isOf (ms_P G (ms_T cI cJ cZ) [] [.int p0, .int p1]) (ms_Qi (fun r : Int32 => ms_z r ∧ K r)) 0 0 ms_N := by
  refine ms_si (cc := cX12_isOf) (maxL := 2) (ty := .boolean) (by decide) rfl (Nat.le_of_ble_eq_true rfl) ?_
  intro p e s m args below meth c Q hx hb hml hown hts hK hP hD hRet ls hl
  have hl : lv_has ls 2 [(0, .int p0), (1, .int p1)] := hl
  have hown : s.vm.findClass RX12 = some m.cls := hown
  refine lv_iload_n hx hb dX12_isOf_0 rfl (lv_at hl 0 rfl) ?_
  refine lv_iconst (v := 2) hx hb dX12_isOf_1 (by decide) ?_
  refine lv_icmp_eq (tgt := 10) hx hb dX12_isOf_2 (by decide) (fun c1 => ?_) (fun c1 => ?_)
  · have hw := hw.1 c1
    refine lv_iconst (v := 1) hx hb dX12_isOf_10 (by decide) ?_
    refine lv_goto (tgt := 15) hx hb dX12_isOf_11 (by decide) ?_
    exact hRet (1 : Int32) _ _ ⟨ms_z1, hw⟩ ms_z1 dX12_isOf_15
  · have hw := hw.2 c1
    refine lv_iload_n hx hb dX12_isOf_5 rfl (lv_at hl 0 rfl) ?_
    refine lv_iload_n hx hb dX12_isOf_6 rfl (lv_at hl 1 rfl) ?_
    refine lv_icmp_ne (tgt := 14) hx hb dX12_isOf_7 (by decide) (fun c2 => ?_) (fun c2 => ?_)
    · have hw := hw.2 c2
      refine lv_iconst (v := 0) hx hb dX12_isOf_14 (by decide) ?_
      exact hRet (0 : Int32) _ _ ⟨ms_z0, hw⟩ ms_z0 dX12_isOf_15
    · have hw := hw.1 c2
      refine lv_iconst (v := 1) hx hb dX12_isOf_10 (by decide) ?_
      refine lv_goto (tgt := 15) hx hb dX12_isOf_11 (by decide) ?_
      exact hRet (1 : Int32) _ _ ⟨ms_z1, hw⟩ ms_z1 dX12_isOf_15
def wX12_itself_L12 (p0 : Int32) (A_states : Nat → Int32) (i4_3 : Int32) (E12 : Int32 → Int32 → Prop) (i12_2 : Int32) (i12_4 : Int32) : Prop :=
  ∀ P12 : Int32 → Int32 → Prop, (∀ (i12_2 : Int32) (i12_4 : Int32), (vp_in i4_3 2 ∧ (((A_states i4_3.toNatClampNeg) ≤ i12_4 → E12 i12_2 i12_4) ∧ (¬ (A_states i4_3.toNatClampNeg) ≤ i12_4 → (wX12_isOf p0 i4_3 (fun r4 => ((r4 = (0 : Int32) → E12 i12_2 i12_4) ∧ (¬ r4 = (0 : Int32) → (∀ x6 : Int32, x6 = (i12_2 ||| ((1 : Int32) <<< ((((9 : Int32) * i4_3) + ((4 : Int32) * i12_4)) &&& 31))) → (∀ x7 : Int32, x7 = i12_4 + (1 : Int32) → P12 x6 x7))))))))) → P12 i12_2 i12_4) → P12 i12_2 i12_4
def wX12_itself_L4 (p0 : Int32) (A_states : Nat → Int32) (E4 : Int32 → Int32 → Prop) (i4_2 : Int32) (i4_3 : Int32) : Prop :=
  ∀ P4 : Int32 → Int32 → Prop, (∀ (i4_2 : Int32) (i4_3 : Int32), (((2 : Int32) ≤ i4_3 → E4 i4_2 i4_3) ∧ (¬ (2 : Int32) ≤ i4_3 → (∀ E12 : Int32 → Int32 → Prop, (∀ (i12_2 : Int32) (i12_4 : Int32), (∀ x2 : Int32, x2 = i4_3 + (1 : Int32) → P4 i12_2 x2) → E12 i12_2 i12_4) → wX12_itself_L12 p0 A_states i4_3 E12 i4_2 (0 : Int32)))) → P4 i4_2 i4_3) → P4 i4_2 i4_3
def wX12_itself (p0 : Int32) (A_states : Nat → Int32) (K : Int32 → Prop) : Prop :=
  (wX12_itself_L4 p0 A_states (fun i4_2 i4_3 => K i4_2) (0 : Int32) (0 : Int32))
abbrev rmX12_itself : Room := { frames := 1, cells := 0, slots := 0, locals := 21 }
theorem nd_X12_itself : yX12_itself.cls = RX12 ∧ yX12_itself.cls ≠ "java/lang/invoke/MethodHandle" ∧ yX12_itself.cls ≠ "java/lang/invoke/VarHandle" ∧ (parseMethodDescriptor yX12_itself.desc).map (fun d => d.parameters.length) = some 1 := by decide +kernel
theorem hkX12_itself_X12 : ∀ w ∈ u_ws RX12 TX12 51, w ∈ wsX12_itself := fun w h => List.mem_cons_of_mem _ (inlX12 w h)
theorem hfX12_itself_7 : (Cond.fieldLink RX12 7 "NestReadersModel" "states" "[I") ∈ wsX12_itself := List.mem_cons_of_mem _ m8_20
set_option maxHeartbeats 4000000 in
set_option maxRecDepth 100000 in
theorem c_X12_itself (l : Launch) (G : va_G) (cI cJ cZ : ClassId) (q_t q_t_states q_t_markMany q_t_takes q_t_puts q_t_goes q_t_closes q_t_text q_t_read q_t_row q_t_partner q_t_some q_t_stackCome q_t_stackSince q_t_stackLetter q_t_runs q_t_ways q_t_keptRuns q_t_keptWays q_t_rel q_t_whole q_t_wholeLong q_t_nodeCome q_t_nodeSince q_t_nodeDeep q_t_nodeLong q_t_wholeMany q_t_blockTo q_t_nodeMany q_t_listCome q_t_listSince q_t_nextCome q_t_nextSince : Nat) (F_bytes : Int32) (F_position : Int32) (F_tokenAt : Int32) (F_token : Int64) (F_digits : Int32) (F_number : Int32) (F_faultAt : Int32) (F_readMany : Int32) (F_size : Int32) (F_stacked : Int32) (F_come : Int32) (F_since : Int32) (F_known : Int32) (F_isSpent : Int32) (F_wholes : Int32) (F_nodes : Int32) (F_places : Int32) (F_listed : Int32) (F_nexts : Int32) (A_states : Nat → Int32) (p0 : Int32) {K : Int32 → Prop} (hw : wX12_itself p0 A_states K) : Met l yX12_itself wsX12_itself rmX12_itself (ms_P G (ms_T cI cJ cZ) [(q_t, .inr (12, [.ref q_t_states, .ref q_t_markMany, .ref q_t_takes, .ref q_t_puts, .ref q_t_goes, .ref q_t_closes, .int F_bytes, .ref q_t_text, .int F_position, .int F_tokenAt, .long F_token, .int F_digits, .int F_number, .int F_faultAt, .int F_readMany, .ref q_t_read, .int F_size, .ref q_t_row, .ref q_t_partner, .ref q_t_some, .ref q_t_stackCome, .ref q_t_stackSince, .ref q_t_stackLetter, .int F_stacked, .int F_come, .int F_since, .ref q_t_runs, .ref q_t_ways, .ref q_t_keptRuns, .ref q_t_keptWays, .ref q_t_rel, .int F_known, .int F_isSpent, .ref q_t_whole, .ref q_t_wholeLong, .int F_wholes, .ref q_t_nodeCome, .ref q_t_nodeSince, .ref q_t_nodeDeep, .ref q_t_nodeLong, .int F_nodes, .int F_places, .ref q_t_wholeMany, .ref q_t_blockTo, .ref q_t_nodeMany, .ref q_t_listCome, .ref q_t_listSince, .int F_listed, .ref q_t_nextCome, .ref q_t_nextSince, .int F_nexts])), (q_t_states, .inl (cI, 2, .inl A_states))] [.ref q_t, .int p0]) (ms_Qi K) 0 0 ms_N := by
  refine ms_si (cc := cX12_itself) (maxL := 5) (ty := .int) (by decide) rfl (Nat.le_of_ble_eq_true rfl) ?_
  intro p e s m args below meth c Q hx hb hml hown hts hK hP hD hRet ls hl
  have hl : lv_has ls 5 [(0, .ref q_t), (1, .int p0)] := hl
  have hown : s.vm.findClass RX12 = some m.cls := hown
  refine lv_iconst (v := 0) hx hb dX12_itself_0 (by decide) ?_
  refine lv_istore_n (lv' := [(2, .int (0 : Int32)), (0, .ref q_t), (1, .int p0)]) hx hb dX12_itself_1 rfl hl (by decide) rfl (fun ls hl => ?_)
  refine lv_iconst (v := 0) hx hb dX12_itself_2 (by decide) ?_
  refine lv_istore_n (lv' := [(3, .int (0 : Int32)), (2, .int (0 : Int32)), (0, .ref q_t), (1, .int p0)]) hx hb dX12_itself_3 rfl hl (by decide) rfl (fun ls hl => ?_)
  refine hw (fun i4_2 i4_3 => ∀ ls : Array Slot, lv_has ls 5 [(0, .ref q_t), (1, .int p0), (2, .int i4_2), (3, .int i4_3)] → W p l e rmX12_itself s m args below meth c s.heap [] 0 0 Q (F0 m 4 ls [])) (fun i4_2 i4_3 hw ls hl => ?_) ls (lv_sub hl [2, 3, 1, 0] rfl)
  refine lv_iload_n hx hb dX12_itself_4 rfl (lv_at hl 3 rfl) ?_
  refine lv_iconst (v := 2) hx hb dX12_itself_5 (by decide) ?_
  refine lv_icmp_ge (tgt := 57) hx hb dX12_itself_6 (by decide) (fun c1 => ?_) (fun c1 => ?_)
  · have hw := hw.1 c1
    refine lv_iload_n hx hb dX12_itself_57 rfl (lv_at hl 2 rfl) ?_
    exact hRet i4_2 _ _ hw (vp_nar_int _) dX12_itself_58
  · have hw := hw.2 c1
    refine lv_iconst (v := 0) hx hb dX12_itself_9 (by decide) ?_
    refine lv_istore (lv' := [(4, .int (0 : Int32)), (0, .ref q_t), (1, .int p0), (2, .int i4_2), (3, .int i4_3)]) hx hb dX12_itself_10 hl (by decide) rfl (fun ls hl => ?_)
    have hw := hw (fun i12_2 i12_4 => ∀ ls : Array Slot, lv_has ls 5 [(0, .ref q_t), (1, .int p0), (2, .int i12_2), (3, .int i4_3)] → W p l e rmX12_itself s m args below meth c s.heap [] 0 0 Q (F0 m 51 ls [])) (fun i12_2 i12_4 hw ls hl => by
      obtain ⟨x2, ex2⟩ : ∃ y : Int32, y = i4_3 + (1 : Int32) := ⟨_, rfl⟩
      have hw := hw x2 ex2
      refine lv_iinc (v := x2) (lv' := [(3, .int x2), (0, .ref q_t), (1, .int p0), (2, .int i12_2)]) hx hb dX12_itself_51 hl (k := 3) rfl (by rw [ex2]; rfl) (by decide) rfl (fun ls hl => ?_)
      refine lv_goto (tgt := 4) hx hb dX12_itself_54 (by decide) ?_
      exact hw ls (lv_sub hl [1, 2, 3, 0] rfl)
      )
    refine hw (fun i12_2 i12_4 => ∀ ls : Array Slot, lv_has ls 5 [(0, .ref q_t), (1, .int p0), (2, .int i12_2), (3, .int i4_3), (4, .int i12_4)] → W p l e rmX12_itself s m args below meth c s.heap [] 0 0 Q (F0 m 12 ls [])) (fun i12_2 i12_4 hw ls hl => ?_) ls (lv_sub hl [1, 2, 3, 4, 0] rfl)
    refine lv_iload hx hb dX12_itself_12 (lv_at hl 4 rfl) ?_
    refine lv_aload_n hx hb dX12_itself_14 rfl (lv_at hl 0 rfl) ?_
    refine va_get (D := G) (ci := 12) (v := .ref q_t_states) (C := RX12) (T := TX12) (N := 51) hx hb hts hkX12_itself_X12 hown hK hP 0 rfl rfl 0 (by decide) (hts (.fieldLink RX12 7 "NestReadersModel" "states" "[I") hfX12_itself_7) (fun _ h9 => h9) rfl dX12_itself_15 ?_
    refine lv_iload_n hx hb dX12_itself_18 rfl (lv_at hl 3 rfl) ?_
    refine va_iald (D := G) hx hb hK hP 1 0 rfl rfl hw.1 dX12_itself_19 ?_
    have hw := hw.2
    refine lv_icmp_ge (tgt := 51) hx hb dX12_itself_20 (by decide) (fun c3 => ?_) (fun c3 => ?_)
    · have hw := hw.1 c3
      exact hw ls (lv_sub hl [0, 1, 2, 3] rfl)
    · have hw := hw.2 c3
      refine lv_iload_n hx hb dX12_itself_23 rfl (lv_at hl 1 rfl) ?_
      refine lv_iload_n hx hb dX12_itself_24 rfl (lv_at hl 3 rfl) ?_
      refine ms_cSi ⟨hx, hb, hml, hown, hts⟩ hK hP hD (c_X12_isOf l G cI cJ cZ p0 i4_3 hw) gX12_itself_X12_isOf rfl nd_X12_isOf ⟨rfl, rfl⟩ rfl ⟨Nat.le_of_ble_eq_true rfl, Nat.le_of_ble_eq_true rfl⟩ hl.1 (rest := []) rfl (Nat.le_of_ble_eq_true rfl)  [] rfl rfl dX12_itself_25 (fun r4 hw => ?_)
      have zzr4 := hw.1
      have hw := hw.2
      refine lv_if_eq (tgt := 51) hx hb dX12_itself_28 (by decide) (fun c5 => ?_) (fun c5 => ?_)
      · have hw := hw.1 c5
        exact hw ls (lv_sub hl [0, 1, 2, 3] rfl)
      · have hw := hw.2 c5
        refine lv_iload_n hx hb dX12_itself_31 rfl (lv_at hl 2 rfl) ?_
        refine lv_iconst (v := 1) hx hb dX12_itself_32 (by decide) ?_
        refine lv_bipush (v := (9)) hx hb dX12_itself_33 (by decide) ?_
        refine lv_iload_n hx hb dX12_itself_35 rfl (lv_at hl 3 rfl) ?_
        refine lv_imul hx hb dX12_itself_36 ?_
        refine lv_iconst (v := 4) hx hb dX12_itself_37 (by decide) ?_
        refine lv_iload hx hb dX12_itself_38 (lv_at hl 4 rfl) ?_
        refine lv_imul hx hb dX12_itself_40 ?_
        refine lv_iadd hx hb dX12_itself_41 ?_
        refine lv_ishl hx hb dX12_itself_42 ?_
        refine lv_ior hx hb dX12_itself_43 ?_
        refine lv_topi (fun x6 ex6 => ?_)
        have hw := hw x6 ex6
        refine lv_istore_n (lv' := [(2, .int x6), (0, .ref q_t), (1, .int p0), (3, .int i4_3), (4, .int i12_4)]) hx hb dX12_itself_44 rfl hl (by decide) rfl (fun ls hl => ?_)
        obtain ⟨x7, ex7⟩ : ∃ y : Int32, y = i12_4 + (1 : Int32) := ⟨_, rfl⟩
        have hw := hw x7 ex7
        refine lv_iinc (v := x7) (lv' := [(4, .int x7), (2, .int x6), (0, .ref q_t), (1, .int p0), (3, .int i4_3)]) hx hb dX12_itself_45 hl (k := 4) rfl (by rw [ex7]; rfl) (by decide) rfl (fun ls hl => ?_)
        refine lv_goto (tgt := 12) hx hb dX12_itself_48 (by decide) ?_
        exact hw ls (lv_sub hl [2, 3, 1, 4, 0] rfl)
def wX12_follow_L4 (p0 : Int32) (p1 : Int32) (E4 : Int32 → Int32 → Prop) (i4_2 : Int32) (i4_3 : Int32) : Prop :=
  ∀ P4 : Int32 → Int32 → Prop, (∀ (i4_2 : Int32) (i4_3 : Int32), (((18 : Int32) ≤ i4_3 → E4 i4_2 i4_3) ∧ (¬ (18 : Int32) ≤ i4_3 → (∀ x2 : Int32, x2 = ((i4_3 / (9 : Int32)) * (9 : Int32)) → (∀ x3 : Int32, x3 = ((i4_3 - i4_3 / (9 : Int32) * (9 : Int32)) / (3 : Int32)) → (∀ x4 : Int32, x4 = (i4_3 - i4_3 / (3 : Int32) * (3 : Int32)) → (∀ x5 : Int32, x5 = ((p1 >>> ((x2 + ((3 : Int32) * x4)) &&& 31)) &&& (7 : Int32)) → ((((p0 >>> (i4_3 &&& 31)) &&& (1 : Int32)) = (1 : Int32) → (∀ x9 : Int32, x9 = (i4_2 ||| (x5 <<< ((x2 + ((3 : Int32) * x3)) &&& 31))) → (∀ x10 : Int32, x10 = i4_3 + (1 : Int32) → P4 x9 x10))) ∧ (¬ ((p0 >>> (i4_3 &&& 31)) &&& (1 : Int32)) = (1 : Int32) → (∀ x7 : Int32, x7 = (i4_2 ||| (0 : Int32)) → (∀ x8 : Int32, x8 = i4_3 + (1 : Int32) → P4 x7 x8)))))))))) → P4 i4_2 i4_3) → P4 i4_2 i4_3
def wX12_follow (p0 : Int32) (p1 : Int32) (K : Int32 → Prop) : Prop :=
  (wX12_follow_L4 p0 p1 (fun i4_2 i4_3 => K i4_2) (0 : Int32) (0 : Int32))
abbrev rmX12_follow : Room := { frames := 0, cells := 0, slots := 0, locals := 0 }
theorem nd_X12_follow : yX12_follow.cls ≠ "java/lang/invoke/MethodHandle" ∧ yX12_follow.cls ≠ "java/lang/invoke/VarHandle" ∧ (parseMethodDescriptor yX12_follow.desc).map (fun d => d.parameters.length) = some 2 := by decide +kernel
set_option maxHeartbeats 4000000 in
set_option maxRecDepth 100000 in
theorem c_X12_follow (l : Launch) (G : va_G) (cI cJ cZ : ClassId) (p0 : Int32) (p1 : Int32) {K : Int32 → Prop} (hw : wX12_follow p0 p1 K) : Met l yX12_follow wsX12_follow rmX12_follow (ms_P G (ms_T cI cJ cZ) [] [.int p0, .int p1]) (ms_Qi K) 0 0 ms_N := by
  refine ms_si (cc := cX12_follow) (maxL := 8) (ty := .int) (by decide) rfl (Nat.le_of_ble_eq_true rfl) ?_
  intro p e s m args below meth c Q hx hb hml hown hts hK hP hD hRet ls hl
  have hl : lv_has ls 8 [(0, .int p0), (1, .int p1)] := hl
  have hown : s.vm.findClass RX12 = some m.cls := hown
  refine lv_iconst (v := 0) hx hb dX12_follow_0 (by decide) ?_
  refine lv_istore_n (lv' := [(2, .int (0 : Int32)), (0, .int p0), (1, .int p1)]) hx hb dX12_follow_1 rfl hl (by decide) rfl (fun ls hl => ?_)
  refine lv_iconst (v := 0) hx hb dX12_follow_2 (by decide) ?_
  refine lv_istore_n (lv' := [(3, .int (0 : Int32)), (2, .int (0 : Int32)), (0, .int p0), (1, .int p1)]) hx hb dX12_follow_3 rfl hl (by decide) rfl (fun ls hl => ?_)
  refine hw (fun i4_2 i4_3 => ∀ ls : Array Slot, lv_has ls 8 [(0, .int p0), (1, .int p1), (2, .int i4_2), (3, .int i4_3)] → W p l e rmX12_follow s m args below meth c s.heap [] 0 0 Q (F0 m 4 ls [])) (fun i4_2 i4_3 hw ls hl => ?_) ls (lv_sub hl [2, 3, 1, 0] rfl)
  refine lv_iload_n hx hb dX12_follow_4 rfl (lv_at hl 3 rfl) ?_
  refine lv_bipush (v := (18)) hx hb dX12_follow_5 (by decide) ?_
  refine lv_icmp_ge (tgt := 78) hx hb dX12_follow_7 (by decide) (fun c1 => ?_) (fun c1 => ?_)
  · have hw := hw.1 c1
    refine lv_iload_n hx hb dX12_follow_78 rfl (lv_at hl 2 rfl) ?_
    exact hRet i4_2 _ _ hw (vp_nar_int _) dX12_follow_79
  · have hw := hw.2 c1
    refine lv_iload_n hx hb dX12_follow_10 rfl (lv_at hl 3 rfl) ?_
    refine lv_bipush (v := (9)) hx hb dX12_follow_11 (by decide) ?_
    refine lv_idiv hx hb dX12_follow_13 (by decide) ?_
    refine lv_bipush (v := (9)) hx hb dX12_follow_14 (by decide) ?_
    refine lv_imul hx hb dX12_follow_16 ?_
    refine lv_topi (fun x2 ex2 => ?_)
    have hw := hw x2 ex2
    refine lv_istore (lv' := [(4, .int x2), (0, .int p0), (1, .int p1), (2, .int i4_2), (3, .int i4_3)]) hx hb dX12_follow_17 hl (by decide) rfl (fun ls hl => ?_)
    refine lv_iload_n hx hb dX12_follow_19 rfl (lv_at hl 4 rfl) ?_
    refine lv_bipush (v := (9)) hx hb dX12_follow_20 (by decide) ?_
    refine lv_irem hx hb dX12_follow_22 (by decide) ?_
    refine lv_iconst (v := 3) hx hb dX12_follow_23 (by decide) ?_
    refine lv_idiv hx hb dX12_follow_24 (by decide) ?_
    refine lv_topi (fun x3 ex3 => ?_)
    have hw := hw x3 ex3
    refine lv_istore (lv' := [(5, .int x3), (4, .int x2), (0, .int p0), (1, .int p1), (2, .int i4_2), (3, .int i4_3)]) hx hb dX12_follow_25 hl (by decide) rfl (fun ls hl => ?_)
    refine lv_iload_n hx hb dX12_follow_27 rfl (lv_at hl 5 rfl) ?_
    refine lv_iconst (v := 3) hx hb dX12_follow_28 (by decide) ?_
    refine lv_irem hx hb dX12_follow_29 (by decide) ?_
    refine lv_topi (fun x4 ex4 => ?_)
    have hw := hw x4 ex4
    refine lv_istore (lv' := [(6, .int x4), (5, .int x3), (4, .int x2), (0, .int p0), (1, .int p1), (2, .int i4_2), (3, .int i4_3)]) hx hb dX12_follow_30 hl (by decide) rfl (fun ls hl => ?_)
    refine lv_iload_n hx hb dX12_follow_32 rfl (lv_at hl 4 rfl) ?_
    refine lv_iload hx hb dX12_follow_33 (lv_at hl 2 rfl) ?_
    refine lv_iconst (v := 3) hx hb dX12_follow_35 (by decide) ?_
    refine lv_iload hx hb dX12_follow_36 (lv_at hl 0 rfl) ?_
    refine lv_imul hx hb dX12_follow_38 ?_
    refine lv_iadd hx hb dX12_follow_39 ?_
    refine lv_ishr hx hb dX12_follow_40 ?_
    refine lv_bipush (v := (7)) hx hb dX12_follow_41 (by decide) ?_
    refine lv_iand hx hb dX12_follow_43 ?_
    refine lv_topi (fun x5 ex5 => ?_)
    have hw := hw x5 ex5
    refine lv_istore (lv' := [(7, .int x5), (6, .int x4), (5, .int x3), (4, .int x2), (0, .int p0), (1, .int p1), (2, .int i4_2), (3, .int i4_3)]) hx hb dX12_follow_44 hl (by decide) rfl (fun ls hl => ?_)
    refine lv_iload_n hx hb dX12_follow_46 rfl (lv_at hl 6 rfl) ?_
    refine lv_iload_n hx hb dX12_follow_47 rfl (lv_at hl 4 rfl) ?_
    refine lv_iload_n hx hb dX12_follow_48 rfl (lv_at hl 7 rfl) ?_
    refine lv_ishr hx hb dX12_follow_49 ?_
    refine lv_iconst (v := 1) hx hb dX12_follow_50 (by decide) ?_
    refine lv_iand hx hb dX12_follow_51 ?_
    refine lv_iconst (v := 1) hx hb dX12_follow_52 (by decide) ?_
    refine lv_icmp_ne (tgt := 69) hx hb dX12_follow_53 (by decide) (fun c6 => ?_) (fun c6 => ?_)
    · have hw := hw.2 c6
      refine lv_iconst (v := 0) hx hb dX12_follow_69 (by decide) ?_
      refine lv_ior hx hb dX12_follow_70 ?_
      refine lv_topi (fun x7 ex7 => ?_)
      have hw := hw x7 ex7
      refine lv_istore_n (lv' := [(2, .int x7), (7, .int x5), (6, .int x4), (5, .int x3), (4, .int x2), (0, .int p0), (1, .int p1), (3, .int i4_3)]) hx hb dX12_follow_71 rfl hl (by decide) rfl (fun ls hl => ?_)
      obtain ⟨x8, ex8⟩ : ∃ y : Int32, y = i4_3 + (1 : Int32) := ⟨_, rfl⟩
      have hw := hw x8 ex8
      refine lv_iinc (v := x8) (lv' := [(3, .int x8), (2, .int x7), (7, .int x5), (6, .int x4), (5, .int x3), (4, .int x2), (0, .int p0), (1, .int p1)]) hx hb dX12_follow_72 hl (k := 7) rfl (by rw [ex8]; rfl) (by decide) rfl (fun ls hl => ?_)
      refine lv_goto (tgt := 4) hx hb dX12_follow_75 (by decide) ?_
      exact hw ls (lv_sub hl [6, 7, 1, 0] rfl)
    · have hw := hw.1 c6
      refine lv_iload hx hb dX12_follow_56 (lv_at hl 0 rfl) ?_
      refine lv_iload hx hb dX12_follow_58 (lv_at hl 3 rfl) ?_
      refine lv_iconst (v := 3) hx hb dX12_follow_60 (by decide) ?_
      refine lv_iload hx hb dX12_follow_61 (lv_at hl 2 rfl) ?_
      refine lv_imul hx hb dX12_follow_63 ?_
      refine lv_iadd hx hb dX12_follow_64 ?_
      refine lv_ishl hx hb dX12_follow_65 ?_
      refine lv_goto (tgt := 70) hx hb dX12_follow_66 (by decide) ?_
      refine lv_ior hx hb dX12_follow_70 ?_
      refine lv_topi (fun x9 ex9 => ?_)
      have hw := hw x9 ex9
      refine lv_istore_n (lv' := [(2, .int x9), (7, .int x5), (6, .int x4), (5, .int x3), (4, .int x2), (0, .int p0), (1, .int p1), (3, .int i4_3)]) hx hb dX12_follow_71 rfl hl (by decide) rfl (fun ls hl => ?_)
      obtain ⟨x10, ex10⟩ : ∃ y : Int32, y = i4_3 + (1 : Int32) := ⟨_, rfl⟩
      have hw := hw x10 ex10
      refine lv_iinc (v := x10) (lv' := [(3, .int x10), (2, .int x9), (7, .int x5), (6, .int x4), (5, .int x3), (4, .int x2), (0, .int p0), (1, .int p1)]) hx hb dX12_follow_72 hl (k := 7) rfl (by rw [ex10]; rfl) (by decide) rfl (fun ls hl => ?_)
      refine lv_goto (tgt := 4) hx hb dX12_follow_75 (by decide) ?_
      exact hw ls (lv_sub hl [6, 7, 1, 0] rfl)
def wX12_image_L4 (p0 : Int32) (p1 : Int32) (E4 : Int32 → Int32 → Prop) (i4_2 : Int32) (i4_3 : Int32) : Prop :=
  ∀ P4 : Int32 → Int32 → Prop, (∀ (i4_2 : Int32) (i4_3 : Int32), (((6 : Int32) ≤ i4_3 → E4 i4_2 i4_3) ∧ (¬ (6 : Int32) ≤ i4_3 → (∀ x2 : Int32, x2 = ((p1 >>> ((((i4_3 / (3 : Int32)) * (9 : Int32)) + ((3 : Int32) * (i4_3 - i4_3 / (3 : Int32) * (3 : Int32)))) &&& 31)) &&& (7 : Int32)) → ((((p0 >>> (i4_3 &&& 31)) &&& (1 : Int32)) = (1 : Int32) → (∀ x6 : Int32, x6 = (i4_2 ||| (x2 <<< (((i4_3 / (3 : Int32)) * (3 : Int32)) &&& 31))) → (∀ x7 : Int32, x7 = i4_3 + (1 : Int32) → P4 x6 x7))) ∧ (¬ ((p0 >>> (i4_3 &&& 31)) &&& (1 : Int32)) = (1 : Int32) → (∀ x4 : Int32, x4 = (i4_2 ||| (0 : Int32)) → (∀ x5 : Int32, x5 = i4_3 + (1 : Int32) → P4 x4 x5))))))) → P4 i4_2 i4_3) → P4 i4_2 i4_3
def wX12_image (p0 : Int32) (p1 : Int32) (K : Int32 → Prop) : Prop :=
  (wX12_image_L4 p0 p1 (fun i4_2 i4_3 => K i4_2) (0 : Int32) (0 : Int32))
abbrev rmX12_image : Room := { frames := 0, cells := 0, slots := 0, locals := 0 }
theorem nd_X12_image : yX12_image.cls ≠ "java/lang/invoke/MethodHandle" ∧ yX12_image.cls ≠ "java/lang/invoke/VarHandle" ∧ (parseMethodDescriptor yX12_image.desc).map (fun d => d.parameters.length) = some 2 := by decide +kernel
set_option maxHeartbeats 4000000 in
set_option maxRecDepth 100000 in
theorem c_X12_image (l : Launch) (G : va_G) (cI cJ cZ : ClassId) (p0 : Int32) (p1 : Int32) {K : Int32 → Prop} (hw : wX12_image p0 p1 K) : Met l yX12_image wsX12_image rmX12_image (ms_P G (ms_T cI cJ cZ) [] [.int p0, .int p1]) (ms_Qi K) 0 0 ms_N := by
  refine ms_si (cc := cX12_image) (maxL := 5) (ty := .int) (by decide) rfl (Nat.le_of_ble_eq_true rfl) ?_
  intro p e s m args below meth c Q hx hb hml hown hts hK hP hD hRet ls hl
  have hl : lv_has ls 5 [(0, .int p0), (1, .int p1)] := hl
  have hown : s.vm.findClass RX12 = some m.cls := hown
  refine lv_iconst (v := 0) hx hb dX12_image_0 (by decide) ?_
  refine lv_istore_n (lv' := [(2, .int (0 : Int32)), (0, .int p0), (1, .int p1)]) hx hb dX12_image_1 rfl hl (by decide) rfl (fun ls hl => ?_)
  refine lv_iconst (v := 0) hx hb dX12_image_2 (by decide) ?_
  refine lv_istore_n (lv' := [(3, .int (0 : Int32)), (2, .int (0 : Int32)), (0, .int p0), (1, .int p1)]) hx hb dX12_image_3 rfl hl (by decide) rfl (fun ls hl => ?_)
  refine hw (fun i4_2 i4_3 => ∀ ls : Array Slot, lv_has ls 5 [(0, .int p0), (1, .int p1), (2, .int i4_2), (3, .int i4_3)] → W p l e rmX12_image s m args below meth c s.heap [] 0 0 Q (F0 m 4 ls [])) (fun i4_2 i4_3 hw ls hl => ?_) ls (lv_sub hl [2, 3, 1, 0] rfl)
  refine lv_iload_n hx hb dX12_image_4 rfl (lv_at hl 3 rfl) ?_
  refine lv_bipush (v := (6)) hx hb dX12_image_5 (by decide) ?_
  refine lv_icmp_ge (tgt := 59) hx hb dX12_image_7 (by decide) (fun c1 => ?_) (fun c1 => ?_)
  · have hw := hw.1 c1
    refine lv_iload_n hx hb dX12_image_59 rfl (lv_at hl 2 rfl) ?_
    exact hRet i4_2 _ _ hw (vp_nar_int _) dX12_image_60
  · have hw := hw.2 c1
    refine lv_iload_n hx hb dX12_image_10 rfl (lv_at hl 1 rfl) ?_
    refine lv_iload_n hx hb dX12_image_11 rfl (lv_at hl 3 rfl) ?_
    refine lv_iconst (v := 3) hx hb dX12_image_12 (by decide) ?_
    refine lv_idiv hx hb dX12_image_13 (by decide) ?_
    refine lv_bipush (v := (9)) hx hb dX12_image_14 (by decide) ?_
    refine lv_imul hx hb dX12_image_16 ?_
    refine lv_iconst (v := 3) hx hb dX12_image_17 (by decide) ?_
    refine lv_iload_n hx hb dX12_image_18 rfl (lv_at hl 3 rfl) ?_
    refine lv_iconst (v := 3) hx hb dX12_image_19 (by decide) ?_
    refine lv_irem hx hb dX12_image_20 (by decide) ?_
    refine lv_imul hx hb dX12_image_21 ?_
    refine lv_iadd hx hb dX12_image_22 ?_
    refine lv_ishr hx hb dX12_image_23 ?_
    refine lv_bipush (v := (7)) hx hb dX12_image_24 (by decide) ?_
    refine lv_iand hx hb dX12_image_26 ?_
    refine lv_topi (fun x2 ex2 => ?_)
    have hw := hw x2 ex2
    refine lv_istore (lv' := [(4, .int x2), (0, .int p0), (1, .int p1), (2, .int i4_2), (3, .int i4_3)]) hx hb dX12_image_27 hl (by decide) rfl (fun ls hl => ?_)
    refine lv_iload_n hx hb dX12_image_29 rfl (lv_at hl 3 rfl) ?_
    refine lv_iload_n hx hb dX12_image_30 rfl (lv_at hl 1 rfl) ?_
    refine lv_iload_n hx hb dX12_image_31 rfl (lv_at hl 4 rfl) ?_
    refine lv_ishr hx hb dX12_image_32 ?_
    refine lv_iconst (v := 1) hx hb dX12_image_33 (by decide) ?_
    refine lv_iand hx hb dX12_image_34 ?_
    refine lv_iconst (v := 1) hx hb dX12_image_35 (by decide) ?_
    refine lv_icmp_ne (tgt := 50) hx hb dX12_image_36 (by decide) (fun c3 => ?_) (fun c3 => ?_)
    · have hw := hw.2 c3
      refine lv_iconst (v := 0) hx hb dX12_image_50 (by decide) ?_
      refine lv_ior hx hb dX12_image_51 ?_
      refine lv_topi (fun x4 ex4 => ?_)
      have hw := hw x4 ex4
      refine lv_istore_n (lv' := [(2, .int x4), (4, .int x2), (0, .int p0), (1, .int p1), (3, .int i4_3)]) hx hb dX12_image_52 rfl hl (by decide) rfl (fun ls hl => ?_)
      obtain ⟨x5, ex5⟩ : ∃ y : Int32, y = i4_3 + (1 : Int32) := ⟨_, rfl⟩
      have hw := hw x5 ex5
      refine lv_iinc (v := x5) (lv' := [(3, .int x5), (2, .int x4), (4, .int x2), (0, .int p0), (1, .int p1)]) hx hb dX12_image_53 hl (k := 4) rfl (by rw [ex5]; rfl) (by decide) rfl (fun ls hl => ?_)
      refine lv_goto (tgt := 4) hx hb dX12_image_56 (by decide) ?_
      exact hw ls (lv_sub hl [3, 4, 1, 0] rfl)
    · have hw := hw.1 c3
      refine lv_iload hx hb dX12_image_39 (lv_at hl 0 rfl) ?_
      refine lv_iload_n hx hb dX12_image_41 rfl (lv_at hl 4 rfl) ?_
      refine lv_iconst (v := 3) hx hb dX12_image_42 (by decide) ?_
      refine lv_idiv hx hb dX12_image_43 (by decide) ?_
      refine lv_iconst (v := 3) hx hb dX12_image_44 (by decide) ?_
      refine lv_imul hx hb dX12_image_45 ?_
      refine lv_ishl hx hb dX12_image_46 ?_
      refine lv_goto (tgt := 51) hx hb dX12_image_47 (by decide) ?_
      refine lv_ior hx hb dX12_image_51 ?_
      refine lv_topi (fun x6 ex6 => ?_)
      have hw := hw x6 ex6
      refine lv_istore_n (lv' := [(2, .int x6), (4, .int x2), (0, .int p0), (1, .int p1), (3, .int i4_3)]) hx hb dX12_image_52 rfl hl (by decide) rfl (fun ls hl => ?_)
      obtain ⟨x7, ex7⟩ : ∃ y : Int32, y = i4_3 + (1 : Int32) := ⟨_, rfl⟩
      have hw := hw x7 ex7
      refine lv_iinc (v := x7) (lv' := [(3, .int x7), (2, .int x6), (4, .int x2), (0, .int p0), (1, .int p1)]) hx hb dX12_image_53 hl (k := 4) rfl (by rw [ex7]; rfl) (by decide) rfl (fun ls hl => ?_)
      refine lv_goto (tgt := 4) hx hb dX12_image_56 (by decide) ?_
      exact hw ls (lv_sub hl [3, 4, 1, 0] rfl)
def wX12_plain_L14 (p0 : Int32) (p1 : Int32) (A_goes : Nat → Int32) (i5_4 : Int32) (E14 : Int32 → Int32 → Prop) (i14_3 : Int32) (i14_5 : Int32) : Prop :=
  ∀ P14 : Int32 → Int32 → Prop, (∀ (i14_3 : Int32) (i14_5 : Int32), (((3 : Int32) ≤ i14_5 → E14 i14_3 i14_5) ∧ (¬ (3 : Int32) ≤ i14_5 → (wX12_isOf p0 i5_4 (fun r4 => ((r4 = (0 : Int32) → E14 i14_3 i14_5) ∧ (¬ r4 = (0 : Int32) → (wX12_goAt i5_4 p1 i14_5 (fun r6 => (vp_in r6 12 ∧ (∀ x7 : Int32, x7 = (i14_3 ||| ((A_goes r6.toNatClampNeg) <<< ((((9 : Int32) * i5_4) + ((3 : Int32) * i14_5)) &&& 31))) → (∀ x8 : Int32, x8 = i14_5 + (1 : Int32) → P14 x7 x8))))))))))) → P14 i14_3 i14_5) → P14 i14_3 i14_5
def wX12_plain_L5 (p0 : Int32) (p1 : Int32) (A_goes : Nat → Int32) (E5 : Int32 → Int32 → Prop) (i5_3 : Int32) (i5_4 : Int32) : Prop :=
  ∀ P5 : Int32 → Int32 → Prop, (∀ (i5_3 : Int32) (i5_4 : Int32), (((2 : Int32) ≤ i5_4 → E5 i5_3 i5_4) ∧ (¬ (2 : Int32) ≤ i5_4 → (∀ E14 : Int32 → Int32 → Prop, (∀ (i14_3 : Int32) (i14_5 : Int32), (∀ x2 : Int32, x2 = i5_4 + (1 : Int32) → P5 i14_3 x2) → E14 i14_3 i14_5) → wX12_plain_L14 p0 p1 A_goes i5_4 E14 i5_3 (0 : Int32)))) → P5 i5_3 i5_4) → P5 i5_3 i5_4
def wX12_plain (p0 : Int32) (p1 : Int32) (A_goes : Nat → Int32) (K : Int32 → Prop) : Prop :=
  (wX12_plain_L5 p0 p1 A_goes (fun i5_3 i5_4 => K i5_3) (0 : Int32) (0 : Int32))
abbrev rmX12_plain : Room := { frames := 1, cells := 0, slots := 0, locals := 22 }
theorem nd_X12_plain : yX12_plain.cls = RX12 ∧ yX12_plain.cls ≠ "java/lang/invoke/MethodHandle" ∧ yX12_plain.cls ≠ "java/lang/invoke/VarHandle" ∧ (parseMethodDescriptor yX12_plain.desc).map (fun d => d.parameters.length) = some 2 := by decide +kernel
theorem hkX12_plain_X12 : ∀ w ∈ u_ws RX12 TX12 51, w ∈ wsX12_plain := fun w h => List.mem_cons_of_mem _ (inlX12 w h)
theorem hfX12_plain_22 : (Cond.fieldLink RX12 22 "NestReadersModel" "goes" "[I") ∈ wsX12_plain := List.mem_cons_of_mem _ m9_0
set_option maxHeartbeats 4000000 in
set_option maxRecDepth 100000 in
theorem c_X12_plain (l : Launch) (G : va_G) (cI cJ cZ : ClassId) (q_t q_t_states q_t_markMany q_t_takes q_t_puts q_t_goes q_t_closes q_t_text q_t_read q_t_row q_t_partner q_t_some q_t_stackCome q_t_stackSince q_t_stackLetter q_t_runs q_t_ways q_t_keptRuns q_t_keptWays q_t_rel q_t_whole q_t_wholeLong q_t_nodeCome q_t_nodeSince q_t_nodeDeep q_t_nodeLong q_t_wholeMany q_t_blockTo q_t_nodeMany q_t_listCome q_t_listSince q_t_nextCome q_t_nextSince : Nat) (F_bytes : Int32) (F_position : Int32) (F_tokenAt : Int32) (F_token : Int64) (F_digits : Int32) (F_number : Int32) (F_faultAt : Int32) (F_readMany : Int32) (F_size : Int32) (F_stacked : Int32) (F_come : Int32) (F_since : Int32) (F_known : Int32) (F_isSpent : Int32) (F_wholes : Int32) (F_nodes : Int32) (F_places : Int32) (F_listed : Int32) (F_nexts : Int32) (A_goes : Nat → Int32) (p0 : Int32) (p1 : Int32) {K : Int32 → Prop} (hw : wX12_plain p0 p1 A_goes K) : Met l yX12_plain wsX12_plain rmX12_plain (ms_P G (ms_T cI cJ cZ) [(q_t, .inr (12, [.ref q_t_states, .ref q_t_markMany, .ref q_t_takes, .ref q_t_puts, .ref q_t_goes, .ref q_t_closes, .int F_bytes, .ref q_t_text, .int F_position, .int F_tokenAt, .long F_token, .int F_digits, .int F_number, .int F_faultAt, .int F_readMany, .ref q_t_read, .int F_size, .ref q_t_row, .ref q_t_partner, .ref q_t_some, .ref q_t_stackCome, .ref q_t_stackSince, .ref q_t_stackLetter, .int F_stacked, .int F_come, .int F_since, .ref q_t_runs, .ref q_t_ways, .ref q_t_keptRuns, .ref q_t_keptWays, .ref q_t_rel, .int F_known, .int F_isSpent, .ref q_t_whole, .ref q_t_wholeLong, .int F_wholes, .ref q_t_nodeCome, .ref q_t_nodeSince, .ref q_t_nodeDeep, .ref q_t_nodeLong, .int F_nodes, .int F_places, .ref q_t_wholeMany, .ref q_t_blockTo, .ref q_t_nodeMany, .ref q_t_listCome, .ref q_t_listSince, .int F_listed, .ref q_t_nextCome, .ref q_t_nextSince, .int F_nexts])), (q_t_goes, .inl (cI, 12, .inl A_goes))] [.ref q_t, .int p0, .int p1]) (ms_Qi K) 0 0 ms_N := by
  refine ms_si (cc := cX12_plain) (maxL := 6) (ty := .int) (by decide) rfl (Nat.le_of_ble_eq_true rfl) ?_
  intro p e s m args below meth c Q hx hb hml hown hts hK hP hD hRet ls hl
  have hl : lv_has ls 6 [(0, .ref q_t), (1, .int p0), (2, .int p1)] := hl
  have hown : s.vm.findClass RX12 = some m.cls := hown
  refine lv_iconst (v := 0) hx hb dX12_plain_0 (by decide) ?_
  refine lv_istore_n (lv' := [(3, .int (0 : Int32)), (0, .ref q_t), (1, .int p0), (2, .int p1)]) hx hb dX12_plain_1 rfl hl (by decide) rfl (fun ls hl => ?_)
  refine lv_iconst (v := 0) hx hb dX12_plain_2 (by decide) ?_
  refine lv_istore (lv' := [(4, .int (0 : Int32)), (3, .int (0 : Int32)), (0, .ref q_t), (1, .int p0), (2, .int p1)]) hx hb dX12_plain_3 hl (by decide) rfl (fun ls hl => ?_)
  refine hw (fun i5_3 i5_4 => ∀ ls : Array Slot, lv_has ls 6 [(0, .ref q_t), (1, .int p0), (2, .int p1), (3, .int i5_3), (4, .int i5_4)] → W p l e rmX12_plain s m args below meth c s.heap [] 0 0 Q (F0 m 5 ls [])) (fun i5_3 i5_4 hw ls hl => ?_) ls (lv_sub hl [2, 3, 4, 1, 0] rfl)
  refine lv_iload hx hb dX12_plain_5 (lv_at hl 4 rfl) ?_
  refine lv_iconst (v := 2) hx hb dX12_plain_7 (by decide) ?_
  refine lv_icmp_ge (tgt := 68) hx hb dX12_plain_8 (by decide) (fun c1 => ?_) (fun c1 => ?_)
  · have hw := hw.1 c1
    refine lv_iload_n hx hb dX12_plain_68 rfl (lv_at hl 3 rfl) ?_
    exact hRet i5_3 _ _ hw (vp_nar_int _) dX12_plain_69
  · have hw := hw.2 c1
    refine lv_iconst (v := 0) hx hb dX12_plain_11 (by decide) ?_
    refine lv_istore (lv' := [(5, .int (0 : Int32)), (0, .ref q_t), (1, .int p0), (2, .int p1), (3, .int i5_3), (4, .int i5_4)]) hx hb dX12_plain_12 hl (by decide) rfl (fun ls hl => ?_)
    have hw := hw (fun i14_3 i14_5 => ∀ ls : Array Slot, lv_has ls 6 [(0, .ref q_t), (1, .int p0), (2, .int p1), (3, .int i14_3), (4, .int i5_4)] → W p l e rmX12_plain s m args below meth c s.heap [] 0 0 Q (F0 m 62 ls [])) (fun i14_3 i14_5 hw ls hl => by
      obtain ⟨x2, ex2⟩ : ∃ y : Int32, y = i5_4 + (1 : Int32) := ⟨_, rfl⟩
      have hw := hw x2 ex2
      refine lv_iinc (v := x2) (lv' := [(4, .int x2), (0, .ref q_t), (1, .int p0), (2, .int p1), (3, .int i14_3)]) hx hb dX12_plain_62 hl (k := 4) rfl (by rw [ex2]; rfl) (by decide) rfl (fun ls hl => ?_)
      refine lv_goto (tgt := 5) hx hb dX12_plain_65 (by decide) ?_
      exact hw ls (lv_sub hl [1, 2, 3, 4, 0] rfl)
      )
    refine hw (fun i14_3 i14_5 => ∀ ls : Array Slot, lv_has ls 6 [(0, .ref q_t), (1, .int p0), (2, .int p1), (3, .int i14_3), (4, .int i5_4), (5, .int i14_5)] → W p l e rmX12_plain s m args below meth c s.heap [] 0 0 Q (F0 m 14 ls [])) (fun i14_3 i14_5 hw ls hl => ?_) ls (lv_sub hl [1, 2, 3, 4, 5, 0] rfl)
    refine lv_iload hx hb dX12_plain_14 (lv_at hl 5 rfl) ?_
    refine lv_iconst (v := 3) hx hb dX12_plain_16 (by decide) ?_
    refine lv_icmp_ge (tgt := 62) hx hb dX12_plain_17 (by decide) (fun c3 => ?_) (fun c3 => ?_)
    · have hw := hw.1 c3
      exact hw ls (lv_sub hl [0, 1, 2, 3, 4] rfl)
    · have hw := hw.2 c3
      refine lv_iload_n hx hb dX12_plain_20 rfl (lv_at hl 1 rfl) ?_
      refine lv_iload hx hb dX12_plain_21 (lv_at hl 4 rfl) ?_
      refine ms_cSi ⟨hx, hb, hml, hown, hts⟩ hK hP hD (c_X12_isOf l G cI cJ cZ p0 i5_4 hw) gX12_plain_X12_isOf rfl nd_X12_isOf ⟨rfl, rfl⟩ rfl ⟨Nat.le_of_ble_eq_true rfl, Nat.le_of_ble_eq_true rfl⟩ hl.1 (rest := []) rfl (Nat.le_of_ble_eq_true rfl)  [] rfl rfl dX12_plain_23 (fun r4 hw => ?_)
      have zzr4 := hw.1
      have hw := hw.2
      refine lv_if_eq (tgt := 62) hx hb dX12_plain_26 (by decide) (fun c5 => ?_) (fun c5 => ?_)
      · have hw := hw.1 c5
        exact hw ls (lv_sub hl [0, 1, 2, 3, 4] rfl)
      · have hw := hw.2 c5
        refine lv_iload_n hx hb dX12_plain_29 rfl (lv_at hl 3 rfl) ?_
        refine lv_aload_n hx hb dX12_plain_30 rfl (lv_at hl 0 rfl) ?_
        refine va_get (D := G) (ci := 12) (v := .ref q_t_goes) (C := RX12) (T := TX12) (N := 51) hx hb hts hkX12_plain_X12 hown hK hP 0 rfl rfl 4 (by decide) (hts (.fieldLink RX12 22 "NestReadersModel" "goes" "[I") hfX12_plain_22) (fun _ h9 => h9) rfl dX12_plain_31 ?_
        refine lv_iload hx hb dX12_plain_34 (lv_at hl 4 rfl) ?_
        refine lv_iload_n hx hb dX12_plain_36 rfl (lv_at hl 2 rfl) ?_
        refine lv_iload hx hb dX12_plain_37 (lv_at hl 5 rfl) ?_
        refine ms_cSi ⟨hx, hb, hml, hown, hts⟩ hK hP hD (c_X12_goAt l G cI cJ cZ i5_4 p1 i14_5 hw) gX12_plain_X12_goAt rfl nd_X12_goAt ⟨rfl, rfl⟩ rfl ⟨Nat.le_of_ble_eq_true rfl, Nat.le_of_ble_eq_true rfl⟩ hl.1 (rest := [.ref q_t_goes, .int i14_3]) rfl (Nat.le_of_ble_eq_true rfl)  [] rfl rfl dX12_plain_39 (fun r6 hw => ?_)
        refine va_iald (D := G) hx hb hK hP 1 0 rfl rfl hw.1 dX12_plain_42 ?_
        have hw := hw.2
        refine lv_bipush (v := (9)) hx hb dX12_plain_43 (by decide) ?_
        refine lv_iload hx hb dX12_plain_45 (lv_at hl 4 rfl) ?_
        refine lv_imul hx hb dX12_plain_47 ?_
        refine lv_iconst (v := 3) hx hb dX12_plain_48 (by decide) ?_
        refine lv_iload hx hb dX12_plain_49 (lv_at hl 5 rfl) ?_
        refine lv_imul hx hb dX12_plain_51 ?_
        refine lv_iadd hx hb dX12_plain_52 ?_
        refine lv_ishl hx hb dX12_plain_53 ?_
        refine lv_ior hx hb dX12_plain_54 ?_
        refine lv_topi (fun x7 ex7 => ?_)
        have hw := hw x7 ex7
        refine lv_istore_n (lv' := [(3, .int x7), (0, .ref q_t), (1, .int p0), (2, .int p1), (4, .int i5_4), (5, .int i14_5)]) hx hb dX12_plain_55 rfl hl (by decide) rfl (fun ls hl => ?_)
        obtain ⟨x8, ex8⟩ : ∃ y : Int32, y = i14_5 + (1 : Int32) := ⟨_, rfl⟩
        have hw := hw x8 ex8
        refine lv_iinc (v := x8) (lv' := [(5, .int x8), (3, .int x7), (0, .ref q_t), (1, .int p0), (2, .int p1), (4, .int i5_4)]) hx hb dX12_plain_56 hl (k := 5) rfl (by rw [ex8]; rfl) (by decide) rfl (fun ls hl => ?_)
        refine lv_goto (tgt := 14) hx hb dX12_plain_59 (by decide) ?_
        exact hw ls (lv_sub hl [2, 3, 4, 1, 5, 0] rfl)
def wX12_block_L86 (p3 : Int32) (A_closes : Nat → Int32) (i6_6 : Int32) (i15_7 : Int32) (i33_8 : Int32) (x11 : Int32) (E86 : Int32 → Int32 → Prop) (i86_5 : Int32) (i86_11 : Int32) : Prop :=
  ∀ P86 : Int32 → Int32 → Prop, (∀ (i86_5 : Int32) (i86_11 : Int32), (((3 : Int32) ≤ i86_11 → E86 i86_5 i86_11) ∧ (¬ (3 : Int32) ≤ i86_11 → ((((x11 >>> (i86_11 &&& 31)) &&& (1 : Int32)) = (1 : Int32) → (wX12_closeAt i6_6 p3 i86_11 i33_8 (fun r17 => (vp_in r17 36 ∧ (∀ x18 : Int32, x18 = (i86_5 ||| ((A_closes r17.toNatClampNeg) <<< ((((9 : Int32) * i6_6) + ((3 : Int32) * i15_7)) &&& 31))) → (∀ x19 : Int32, x19 = i86_11 + (1 : Int32) → P86 x18 x19)))))) ∧ (¬ ((x11 >>> (i86_11 &&& 31)) &&& (1 : Int32)) = (1 : Int32) → (∀ x15 : Int32, x15 = (i86_5 ||| (0 : Int32)) → (∀ x16 : Int32, x16 = i86_11 + (1 : Int32) → P86 x15 x16)))))) → P86 i86_5 i86_11) → P86 i86_5 i86_11
def wX12_block_L33 (p1 : Int32) (p2 : Int32) (p3 : Int32) (A_markMany : Nat → Int32) (A_puts : Nat → Int32) (A_closes : Nat → Int32) (i6_6 : Int32) (i15_7 : Int32) (E33 : Int32 → Int32 → Prop) (i33_5 : Int32) (i33_8 : Int32) : Prop :=
  ∀ P33 : Int32 → Int32 → Prop, (∀ (i33_5 : Int32) (i33_8 : Int32), (vp_in i6_6 2 ∧ (((A_markMany i6_6.toNatClampNeg) ≤ i33_8 → E33 i33_5 i33_8) ∧ (¬ (A_markMany i6_6.toNatClampNeg) ≤ i33_8 → (wX12_putAt i6_6 p1 i15_7 i33_8 (fun r8 => (vp_in r8 24 ∧ (∀ x9 : Int32, x9 = (A_puts r8.toNatClampNeg) → (wX12_image (x9 <<< (((3 : Int32) * i6_6) &&& 31)) p2 (fun r10 => (∀ x11 : Int32, x11 = ((r10 >>> (((3 : Int32) * i6_6) &&& 31)) &&& (7 : Int32)) → (wX12_block_L86 p3 A_closes i6_6 i15_7 i33_8 x11 (fun i86_5 i86_11 => (∀ x13 : Int32, x13 = i33_8 + (1 : Int32) → P33 i86_5 x13)) i33_5 (0 : Int32)))))))))))) → P33 i33_5 i33_8) → P33 i33_5 i33_8
def wX12_block_L15 (p0 : Int32) (p1 : Int32) (p2 : Int32) (p3 : Int32) (A_markMany : Nat → Int32) (A_puts : Nat → Int32) (A_closes : Nat → Int32) (i6_6 : Int32) (E15 : Int32 → Int32 → Prop) (i15_5 : Int32) (i15_7 : Int32) : Prop :=
  ∀ P15 : Int32 → Int32 → Prop, (∀ (i15_5 : Int32) (i15_7 : Int32), (((3 : Int32) ≤ i15_7 → E15 i15_5 i15_7) ∧ (¬ (3 : Int32) ≤ i15_7 → (wX12_isOf p0 i6_6 (fun r4 => ((r4 = (0 : Int32) → E15 i15_5 i15_7) ∧ (¬ r4 = (0 : Int32) → (wX12_block_L33 p1 p2 p3 A_markMany A_puts A_closes i6_6 i15_7 (fun i33_5 i33_8 => (∀ x7 : Int32, x7 = i15_7 + (1 : Int32) → P15 i33_5 x7)) i15_5 (0 : Int32)))))))) → P15 i15_5 i15_7) → P15 i15_5 i15_7
def wX12_block_L6 (p0 : Int32) (p1 : Int32) (p2 : Int32) (p3 : Int32) (A_markMany : Nat → Int32) (A_puts : Nat → Int32) (A_closes : Nat → Int32) (E6 : Int32 → Int32 → Prop) (i6_5 : Int32) (i6_6 : Int32) : Prop :=
  ∀ P6 : Int32 → Int32 → Prop, (∀ (i6_5 : Int32) (i6_6 : Int32), (((2 : Int32) ≤ i6_6 → E6 i6_5 i6_6) ∧ (¬ (2 : Int32) ≤ i6_6 → (∀ E15 : Int32 → Int32 → Prop, (∀ (i15_5 : Int32) (i15_7 : Int32), (∀ x2 : Int32, x2 = i6_6 + (1 : Int32) → P6 i15_5 x2) → E15 i15_5 i15_7) → wX12_block_L15 p0 p1 p2 p3 A_markMany A_puts A_closes i6_6 E15 i6_5 (0 : Int32)))) → P6 i6_5 i6_6) → P6 i6_5 i6_6
def wX12_block (p0 : Int32) (p1 : Int32) (p2 : Int32) (p3 : Int32) (A_markMany : Nat → Int32) (A_puts : Nat → Int32) (A_closes : Nat → Int32) (K : Int32 → Prop) : Prop :=
  (wX12_block_L6 p0 p1 p2 p3 A_markMany A_puts A_closes (fun i6_5 i6_6 => K i6_5) (0 : Int32) (0 : Int32))
abbrev rmX12_block : Room := { frames := 1, cells := 0, slots := 0, locals := 24 }
theorem nd_X12_block : yX12_block.cls = RX12 ∧ yX12_block.cls ≠ "java/lang/invoke/MethodHandle" ∧ yX12_block.cls ≠ "java/lang/invoke/VarHandle" ∧ (parseMethodDescriptor yX12_block.desc).map (fun d => d.parameters.length) = some 4 := by decide +kernel
theorem hkX12_block_X12 : ∀ w ∈ u_ws RX12 TX12 51, w ∈ wsX12_block := fun w h => List.mem_cons_of_mem _ (inlX12 w h)
theorem hfX12_block_13 : (Cond.fieldLink RX12 13 "NestReadersModel" "markMany" "[I") ∈ wsX12_block := List.mem_cons_of_mem _ m8_21
theorem hfX12_block_19 : (Cond.fieldLink RX12 19 "NestReadersModel" "puts" "[I") ∈ wsX12_block := List.mem_cons_of_mem _ m8_23
theorem hfX12_block_25 : (Cond.fieldLink RX12 25 "NestReadersModel" "closes" "[I") ∈ wsX12_block := List.mem_cons_of_mem _ m9_1
set_option maxHeartbeats 4000000 in
set_option maxRecDepth 100000 in
theorem c_X12_block (l : Launch) (G : va_G) (cI cJ cZ : ClassId) (q_t q_t_states q_t_markMany q_t_takes q_t_puts q_t_goes q_t_closes q_t_text q_t_read q_t_row q_t_partner q_t_some q_t_stackCome q_t_stackSince q_t_stackLetter q_t_runs q_t_ways q_t_keptRuns q_t_keptWays q_t_rel q_t_whole q_t_wholeLong q_t_nodeCome q_t_nodeSince q_t_nodeDeep q_t_nodeLong q_t_wholeMany q_t_blockTo q_t_nodeMany q_t_listCome q_t_listSince q_t_nextCome q_t_nextSince : Nat) (F_bytes : Int32) (F_position : Int32) (F_tokenAt : Int32) (F_token : Int64) (F_digits : Int32) (F_number : Int32) (F_faultAt : Int32) (F_readMany : Int32) (F_size : Int32) (F_stacked : Int32) (F_come : Int32) (F_since : Int32) (F_known : Int32) (F_isSpent : Int32) (F_wholes : Int32) (F_nodes : Int32) (F_places : Int32) (F_listed : Int32) (F_nexts : Int32) (A_markMany : Nat → Int32) (A_puts : Nat → Int32) (A_closes : Nat → Int32) (p0 : Int32) (p1 : Int32) (p2 : Int32) (p3 : Int32) {K : Int32 → Prop} (hw : wX12_block p0 p1 p2 p3 A_markMany A_puts A_closes K) : Met l yX12_block wsX12_block rmX12_block (ms_P G (ms_T cI cJ cZ) [(q_t, .inr (12, [.ref q_t_states, .ref q_t_markMany, .ref q_t_takes, .ref q_t_puts, .ref q_t_goes, .ref q_t_closes, .int F_bytes, .ref q_t_text, .int F_position, .int F_tokenAt, .long F_token, .int F_digits, .int F_number, .int F_faultAt, .int F_readMany, .ref q_t_read, .int F_size, .ref q_t_row, .ref q_t_partner, .ref q_t_some, .ref q_t_stackCome, .ref q_t_stackSince, .ref q_t_stackLetter, .int F_stacked, .int F_come, .int F_since, .ref q_t_runs, .ref q_t_ways, .ref q_t_keptRuns, .ref q_t_keptWays, .ref q_t_rel, .int F_known, .int F_isSpent, .ref q_t_whole, .ref q_t_wholeLong, .int F_wholes, .ref q_t_nodeCome, .ref q_t_nodeSince, .ref q_t_nodeDeep, .ref q_t_nodeLong, .int F_nodes, .int F_places, .ref q_t_wholeMany, .ref q_t_blockTo, .ref q_t_nodeMany, .ref q_t_listCome, .ref q_t_listSince, .int F_listed, .ref q_t_nextCome, .ref q_t_nextSince, .int F_nexts])), (q_t_markMany, .inl (cI, 2, .inl A_markMany)), (q_t_puts, .inl (cI, 24, .inl A_puts)), (q_t_closes, .inl (cI, 36, .inl A_closes))] [.ref q_t, .int p0, .int p1, .int p2, .int p3]) (ms_Qi K) 0 0 ms_N := by
  refine ms_si (cc := cX12_block) (maxL := 12) (ty := .int) (by decide) rfl (Nat.le_of_ble_eq_true rfl) ?_
  intro p e s m args below meth c Q hx hb hml hown hts hK hP hD hRet ls hl
  have hl : lv_has ls 12 [(0, .ref q_t), (1, .int p0), (2, .int p1), (3, .int p2), (4, .int p3)] := hl
  have hown : s.vm.findClass RX12 = some m.cls := hown
  refine lv_iconst (v := 0) hx hb dX12_block_0 (by decide) ?_
  refine lv_istore (lv' := [(5, .int (0 : Int32)), (0, .ref q_t), (1, .int p0), (2, .int p1), (3, .int p2), (4, .int p3)]) hx hb dX12_block_1 hl (by decide) rfl (fun ls hl => ?_)
  refine lv_iconst (v := 0) hx hb dX12_block_3 (by decide) ?_
  refine lv_istore (lv' := [(6, .int (0 : Int32)), (5, .int (0 : Int32)), (0, .ref q_t), (1, .int p0), (2, .int p1), (3, .int p2), (4, .int p3)]) hx hb dX12_block_4 hl (by decide) rfl (fun ls hl => ?_)
  refine hw (fun i6_5 i6_6 => ∀ ls : Array Slot, lv_has ls 12 [(0, .ref q_t), (1, .int p0), (2, .int p1), (3, .int p2), (4, .int p3), (5, .int i6_5), (6, .int i6_6)] → W p l e rmX12_block s m args below meth c s.heap [] 0 0 Q (F0 m 6 ls [])) (fun i6_5 i6_6 hw ls hl => ?_) ls (lv_sub hl [2, 3, 4, 5, 6, 1, 0] rfl)
  refine lv_iload hx hb dX12_block_6 (lv_at hl 6 rfl) ?_
  refine lv_iconst (v := 2) hx hb dX12_block_8 (by decide) ?_
  refine lv_icmp_ge (tgt := 163) hx hb dX12_block_9 (by decide) (fun c1 => ?_) (fun c1 => ?_)
  · have hw := hw.1 c1
    refine lv_iload hx hb dX12_block_163 (lv_at hl 5 rfl) ?_
    exact hRet i6_5 _ _ hw (vp_nar_int _) dX12_block_165
  · have hw := hw.2 c1
    refine lv_iconst (v := 0) hx hb dX12_block_12 (by decide) ?_
    refine lv_istore (lv' := [(7, .int (0 : Int32)), (0, .ref q_t), (1, .int p0), (2, .int p1), (3, .int p2), (4, .int p3), (5, .int i6_5), (6, .int i6_6)]) hx hb dX12_block_13 hl (by decide) rfl (fun ls hl => ?_)
    have hw := hw (fun i15_5 i15_7 => ∀ ls : Array Slot, lv_has ls 12 [(0, .ref q_t), (1, .int p0), (2, .int p1), (3, .int p2), (4, .int p3), (5, .int i15_5), (6, .int i6_6)] → W p l e rmX12_block s m args below meth c s.heap [] 0 0 Q (F0 m 157 ls [])) (fun i15_5 i15_7 hw ls hl => by
      obtain ⟨x2, ex2⟩ : ∃ y : Int32, y = i6_6 + (1 : Int32) := ⟨_, rfl⟩
      have hw := hw x2 ex2
      refine lv_iinc (v := x2) (lv' := [(6, .int x2), (0, .ref q_t), (1, .int p0), (2, .int p1), (3, .int p2), (4, .int p3), (5, .int i15_5)]) hx hb dX12_block_157 hl (k := 6) rfl (by rw [ex2]; rfl) (by decide) rfl (fun ls hl => ?_)
      refine lv_goto (tgt := 6) hx hb dX12_block_160 (by decide) ?_
      exact hw ls (lv_sub hl [1, 2, 3, 4, 5, 6, 0] rfl)
      )
    refine hw (fun i15_5 i15_7 => ∀ ls : Array Slot, lv_has ls 12 [(0, .ref q_t), (1, .int p0), (2, .int p1), (3, .int p2), (4, .int p3), (5, .int i15_5), (6, .int i6_6), (7, .int i15_7)] → W p l e rmX12_block s m args below meth c s.heap [] 0 0 Q (F0 m 15 ls [])) (fun i15_5 i15_7 hw ls hl => ?_) ls (lv_sub hl [1, 2, 3, 4, 5, 6, 7, 0] rfl)
    refine lv_iload hx hb dX12_block_15 (lv_at hl 7 rfl) ?_
    refine lv_iconst (v := 3) hx hb dX12_block_17 (by decide) ?_
    refine lv_icmp_ge (tgt := 157) hx hb dX12_block_18 (by decide) (fun c3 => ?_) (fun c3 => ?_)
    · have hw := hw.1 c3
      exact hw ls (lv_sub hl [0, 1, 2, 3, 4, 5, 6] rfl)
    · have hw := hw.2 c3
      refine lv_iload_n hx hb dX12_block_21 rfl (lv_at hl 1 rfl) ?_
      refine lv_iload hx hb dX12_block_22 (lv_at hl 6 rfl) ?_
      refine ms_cSi ⟨hx, hb, hml, hown, hts⟩ hK hP hD (c_X12_isOf l G cI cJ cZ p0 i6_6 hw) gX12_block_X12_isOf rfl nd_X12_isOf ⟨rfl, rfl⟩ rfl ⟨Nat.le_of_ble_eq_true rfl, Nat.le_of_ble_eq_true rfl⟩ hl.1 (rest := []) rfl (Nat.le_of_ble_eq_true rfl)  [] rfl rfl dX12_block_24 (fun r4 hw => ?_)
      have zzr4 := hw.1
      have hw := hw.2
      refine lv_if_eq (tgt := 157) hx hb dX12_block_27 (by decide) (fun c5 => ?_) (fun c5 => ?_)
      · have hw := hw.1 c5
        exact hw ls (lv_sub hl [0, 1, 2, 3, 4, 5, 6] rfl)
      · have hw := hw.2 c5
        refine lv_iconst (v := 0) hx hb dX12_block_30 (by decide) ?_
        refine lv_istore (lv' := [(8, .int (0 : Int32)), (0, .ref q_t), (1, .int p0), (2, .int p1), (3, .int p2), (4, .int p3), (5, .int i15_5), (6, .int i6_6), (7, .int i15_7)]) hx hb dX12_block_31 hl (by decide) rfl (fun ls hl => ?_)
        refine hw (fun i33_5 i33_8 => ∀ ls : Array Slot, lv_has ls 12 [(0, .ref q_t), (1, .int p0), (2, .int p1), (3, .int p2), (4, .int p3), (5, .int i33_5), (6, .int i6_6), (7, .int i15_7), (8, .int i33_8)] → W p l e rmX12_block s m args below meth c s.heap [] 0 0 Q (F0 m 33 ls [])) (fun i33_5 i33_8 hw ls hl => ?_) ls (lv_sub hl [1, 2, 3, 4, 5, 6, 7, 8, 0] rfl)
        refine lv_iload hx hb dX12_block_33 (lv_at hl 8 rfl) ?_
        refine lv_aload_n hx hb dX12_block_35 rfl (lv_at hl 0 rfl) ?_
        refine va_get (D := G) (ci := 12) (v := .ref q_t_markMany) (C := RX12) (T := TX12) (N := 51) hx hb hts hkX12_block_X12 hown hK hP 0 rfl rfl 1 (by decide) (hts (.fieldLink RX12 13 "NestReadersModel" "markMany" "[I") hfX12_block_13) (fun _ h9 => h9) rfl dX12_block_36 ?_
        refine lv_iload hx hb dX12_block_39 (lv_at hl 6 rfl) ?_
        refine va_iald (D := G) hx hb hK hP 1 0 rfl rfl hw.1 dX12_block_41 ?_
        have hw := hw.2
        refine lv_icmp_ge (tgt := 151) hx hb dX12_block_42 (by decide) (fun c6 => ?_) (fun c6 => ?_)
        · have hw := hw.1 c6
          obtain ⟨x7, ex7⟩ : ∃ y : Int32, y = i15_7 + (1 : Int32) := ⟨_, rfl⟩
          have hw := hw x7 ex7
          refine lv_iinc (v := x7) (lv' := [(7, .int x7), (0, .ref q_t), (1, .int p0), (2, .int p1), (3, .int p2), (4, .int p3), (5, .int i33_5), (6, .int i6_6), (8, .int i33_8)]) hx hb dX12_block_151 hl (k := 7) rfl (by rw [ex7]; rfl) (by decide) rfl (fun ls hl => ?_)
          refine lv_goto (tgt := 15) hx hb dX12_block_154 (by decide) ?_
          exact hw ls (lv_sub hl [1, 2, 3, 4, 5, 6, 7, 0] rfl)
        · have hw := hw.2 c6
          refine lv_aload_n hx hb dX12_block_45 rfl (lv_at hl 0 rfl) ?_
          refine va_get (D := G) (ci := 12) (v := .ref q_t_puts) (C := RX12) (T := TX12) (N := 51) hx hb hts hkX12_block_X12 hown hK hP 0 rfl rfl 3 (by decide) (hts (.fieldLink RX12 19 "NestReadersModel" "puts" "[I") hfX12_block_19) (fun _ h9 => h9) rfl dX12_block_46 ?_
          refine lv_iload hx hb dX12_block_49 (lv_at hl 6 rfl) ?_
          refine lv_iload_n hx hb dX12_block_51 rfl (lv_at hl 2 rfl) ?_
          refine lv_iload hx hb dX12_block_52 (lv_at hl 7 rfl) ?_
          refine lv_iload hx hb dX12_block_54 (lv_at hl 8 rfl) ?_
          refine ms_cSi ⟨hx, hb, hml, hown, hts⟩ hK hP hD (c_X12_putAt l G cI cJ cZ i6_6 p1 i15_7 i33_8 hw) gX12_block_X12_putAt rfl nd_X12_putAt ⟨rfl, rfl⟩ rfl ⟨Nat.le_of_ble_eq_true rfl, Nat.le_of_ble_eq_true rfl⟩ hl.1 (rest := [.ref q_t_puts]) rfl (Nat.le_of_ble_eq_true rfl)  [] rfl rfl dX12_block_56 (fun r8 hw => ?_)
          refine va_iald (D := G) hx hb hK hP 2 0 rfl rfl hw.1 dX12_block_59 ?_
          have hw := hw.2
          refine lv_topi (fun x9 ex9 => ?_)
          have hw := hw x9 ex9
          refine lv_istore (lv' := [(9, .int x9), (0, .ref q_t), (1, .int p0), (2, .int p1), (3, .int p2), (4, .int p3), (5, .int i33_5), (6, .int i6_6), (7, .int i15_7), (8, .int i33_8)]) hx hb dX12_block_60 hl (by decide) rfl (fun ls hl => ?_)
          refine lv_iload hx hb dX12_block_62 (lv_at hl 0 rfl) ?_
          refine lv_iconst (v := 3) hx hb dX12_block_64 (by decide) ?_
          refine lv_iload hx hb dX12_block_65 (lv_at hl 7 rfl) ?_
          refine lv_imul hx hb dX12_block_67 ?_
          refine lv_ishl hx hb dX12_block_68 ?_
          refine lv_iload_n hx hb dX12_block_69 rfl (lv_at hl 4 rfl) ?_
          refine ms_cSi ⟨hx, hb, hml, hown, hts⟩ hK hP hD (c_X12_image l G cI cJ cZ (x9 <<< (((3 : Int32) * i6_6) &&& 31)) p2 hw) gX12_block_X12_image rfl nd_X12_image ⟨rfl, rfl⟩ rfl ⟨Nat.le_of_ble_eq_true rfl, Nat.le_of_ble_eq_true rfl⟩ hl.1 (rest := []) rfl (Nat.le_of_ble_eq_true rfl)  [] rfl rfl dX12_block_70 (fun r10 hw => ?_)
          refine lv_iconst (v := 3) hx hb dX12_block_73 (by decide) ?_
          refine lv_iload hx hb dX12_block_74 (lv_at hl 7 rfl) ?_
          refine lv_imul hx hb dX12_block_76 ?_
          refine lv_ishr hx hb dX12_block_77 ?_
          refine lv_bipush (v := (7)) hx hb dX12_block_78 (by decide) ?_
          refine lv_iand hx hb dX12_block_80 ?_
          refine lv_topi (fun x11 ex11 => ?_)
          have hw := hw x11 ex11
          refine lv_istore (lv' := [(10, .int x11), (9, .int x9), (0, .ref q_t), (1, .int p0), (2, .int p1), (3, .int p2), (4, .int p3), (5, .int i33_5), (6, .int i6_6), (7, .int i15_7), (8, .int i33_8)]) hx hb dX12_block_81 hl (by decide) rfl (fun ls hl => ?_)
          refine lv_iconst (v := 0) hx hb dX12_block_83 (by decide) ?_
          refine lv_istore (lv' := [(11, .int (0 : Int32)), (10, .int x11), (9, .int x9), (0, .ref q_t), (1, .int p0), (2, .int p1), (3, .int p2), (4, .int p3), (5, .int i33_5), (6, .int i6_6), (7, .int i15_7), (8, .int i33_8)]) hx hb dX12_block_84 hl (by decide) rfl (fun ls hl => ?_)
          refine hw (fun i86_5 i86_11 => ∀ ls : Array Slot, lv_has ls 12 [(0, .ref q_t), (1, .int p0), (2, .int p1), (3, .int p2), (4, .int p3), (5, .int i86_5), (6, .int i6_6), (7, .int i15_7), (8, .int i33_8), (10, .int x11), (11, .int i86_11)] → W p l e rmX12_block s m args below meth c s.heap [] 0 0 Q (F0 m 86 ls [])) (fun i86_5 i86_11 hw ls hl => ?_) ls (lv_sub hl [3, 4, 5, 6, 7, 8, 9, 10, 11, 1, 0] rfl)
          refine lv_iload hx hb dX12_block_86 (lv_at hl 10 rfl) ?_
          refine lv_iconst (v := 3) hx hb dX12_block_88 (by decide) ?_
          refine lv_icmp_ge (tgt := 145) hx hb dX12_block_89 (by decide) (fun c12 => ?_) (fun c12 => ?_)
          · have hw := hw.1 c12
            obtain ⟨x13, ex13⟩ : ∃ y : Int32, y = i33_8 + (1 : Int32) := ⟨_, rfl⟩
            have hw := hw x13 ex13
            refine lv_iinc (v := x13) (lv' := [(8, .int x13), (0, .ref q_t), (1, .int p0), (2, .int p1), (3, .int p2), (4, .int p3), (5, .int i86_5), (6, .int i6_6), (7, .int i15_7), (10, .int x11), (11, .int i86_11)]) hx hb dX12_block_145 hl (k := 8) rfl (by rw [ex13]; rfl) (by decide) rfl (fun ls hl => ?_)
            refine lv_goto (tgt := 33) hx hb dX12_block_148 (by decide) ?_
            exact hw ls (lv_sub hl [1, 2, 3, 4, 5, 6, 7, 8, 0] rfl)
          · have hw := hw.2 c12
            refine lv_iload hx hb dX12_block_92 (lv_at hl 5 rfl) ?_
            refine lv_iload hx hb dX12_block_94 (lv_at hl 9 rfl) ?_
            refine lv_iload hx hb dX12_block_96 (lv_at hl 10 rfl) ?_
            refine lv_ishr hx hb dX12_block_98 ?_
            refine lv_iconst (v := 1) hx hb dX12_block_99 (by decide) ?_
            refine lv_iand hx hb dX12_block_100 ?_
            refine lv_iconst (v := 1) hx hb dX12_block_101 (by decide) ?_
            refine lv_icmp_ne (tgt := 135) hx hb dX12_block_102 (by decide) (fun c14 => ?_) (fun c14 => ?_)
            · have hw := hw.2 c14
              refine lv_iconst (v := 0) hx hb dX12_block_135 (by decide) ?_
              refine lv_ior hx hb dX12_block_136 ?_
              refine lv_topi (fun x15 ex15 => ?_)
              have hw := hw x15 ex15
              refine lv_istore (lv' := [(5, .int x15), (0, .ref q_t), (1, .int p0), (2, .int p1), (3, .int p2), (4, .int p3), (6, .int i6_6), (7, .int i15_7), (8, .int i33_8), (10, .int x11), (11, .int i86_11)]) hx hb dX12_block_137 hl (by decide) rfl (fun ls hl => ?_)
              obtain ⟨x16, ex16⟩ : ∃ y : Int32, y = i86_11 + (1 : Int32) := ⟨_, rfl⟩
              have hw := hw x16 ex16
              refine lv_iinc (v := x16) (lv' := [(11, .int x16), (5, .int x15), (0, .ref q_t), (1, .int p0), (2, .int p1), (3, .int p2), (4, .int p3), (6, .int i6_6), (7, .int i15_7), (8, .int i33_8), (10, .int x11)]) hx hb dX12_block_139 hl (k := 10) rfl (by rw [ex16]; rfl) (by decide) rfl (fun ls hl => ?_)
              refine lv_goto (tgt := 86) hx hb dX12_block_142 (by decide) ?_
              exact hw ls (lv_sub hl [2, 3, 4, 5, 6, 1, 7, 8, 9, 10, 0] rfl)
            · have hw := hw.1 c14
              refine lv_aload_n hx hb dX12_block_105 rfl (lv_at hl 0 rfl) ?_
              refine va_get (D := G) (ci := 12) (v := .ref q_t_closes) (C := RX12) (T := TX12) (N := 51) hx hb hts hkX12_block_X12 hown hK hP 0 rfl rfl 5 (by decide) (hts (.fieldLink RX12 25 "NestReadersModel" "closes" "[I") hfX12_block_25) (fun _ h9 => h9) rfl dX12_block_106 ?_
              refine lv_iload hx hb dX12_block_109 (lv_at hl 6 rfl) ?_
              refine lv_iload hx hb dX12_block_111 (lv_at hl 4 rfl) ?_
              refine lv_iload hx hb dX12_block_113 (lv_at hl 10 rfl) ?_
              refine lv_iload hx hb dX12_block_115 (lv_at hl 8 rfl) ?_
              refine ms_cSi ⟨hx, hb, hml, hown, hts⟩ hK hP hD (c_X12_closeAt l G cI cJ cZ i6_6 p3 i86_11 i33_8 hw) gX12_block_X12_closeAt rfl nd_X12_closeAt ⟨rfl, rfl⟩ rfl ⟨Nat.le_of_ble_eq_true rfl, Nat.le_of_ble_eq_true rfl⟩ hl.1 (rest := [.ref q_t_closes, .int i86_5]) rfl (Nat.le_of_ble_eq_true rfl)  [] rfl rfl dX12_block_117 (fun r17 hw => ?_)
              refine va_iald (D := G) hx hb hK hP 3 0 rfl rfl hw.1 dX12_block_120 ?_
              have hw := hw.2
              refine lv_bipush (v := (9)) hx hb dX12_block_121 (by decide) ?_
              refine lv_iload hx hb dX12_block_123 (lv_at hl 6 rfl) ?_
              refine lv_imul hx hb dX12_block_125 ?_
              refine lv_iconst (v := 3) hx hb dX12_block_126 (by decide) ?_
              refine lv_iload hx hb dX12_block_127 (lv_at hl 7 rfl) ?_
              refine lv_imul hx hb dX12_block_129 ?_
              refine lv_iadd hx hb dX12_block_130 ?_
              refine lv_ishl hx hb dX12_block_131 ?_
              refine lv_goto (tgt := 136) hx hb dX12_block_132 (by decide) ?_
              refine lv_ior hx hb dX12_block_136 ?_
              refine lv_topi (fun x18 ex18 => ?_)
              have hw := hw x18 ex18
              refine lv_istore (lv' := [(5, .int x18), (0, .ref q_t), (1, .int p0), (2, .int p1), (3, .int p2), (4, .int p3), (6, .int i6_6), (7, .int i15_7), (8, .int i33_8), (10, .int x11), (11, .int i86_11)]) hx hb dX12_block_137 hl (by decide) rfl (fun ls hl => ?_)
              obtain ⟨x19, ex19⟩ : ∃ y : Int32, y = i86_11 + (1 : Int32) := ⟨_, rfl⟩
              have hw := hw x19 ex19
              refine lv_iinc (v := x19) (lv' := [(11, .int x19), (5, .int x18), (0, .ref q_t), (1, .int p0), (2, .int p1), (3, .int p2), (4, .int p3), (6, .int i6_6), (7, .int i15_7), (8, .int i33_8), (10, .int x11)]) hx hb dX12_block_139 hl (k := 10) rfl (by rw [ex19]; rfl) (by decide) rfl (fun ls hl => ?_)
              refine lv_goto (tgt := 86) hx hb dX12_block_142 (by decide) ?_
              exact hw ls (lv_sub hl [2, 3, 4, 5, 6, 1, 7, 8, 9, 10, 0] rfl)
def wX12_opened_L15 (p0 : Int32) (p1 : Int32) (p2 : Int32) (A_puts : Nat → Int32) (i6_5 : Int32) (E15 : Int32 → Int32 → Prop) (i15_4 : Int32) (i15_6 : Int32) : Prop :=
  ∀ P15 : Int32 → Int32 → Prop, (∀ (i15_4 : Int32) (i15_6 : Int32), (((3 : Int32) ≤ i15_6 → E15 i15_4 i15_6) ∧ (¬ (3 : Int32) ≤ i15_6 → (wX12_isOf p0 i6_5 (fun r4 => ((r4 = (0 : Int32) → E15 i15_4 i15_6) ∧ (¬ r4 = (0 : Int32) → (wX12_putAt i6_5 p1 i15_6 (0 : Int32) (fun r6 => (vp_in r6 24 ∧ (wX12_putAt i6_5 p1 i15_6 (1 : Int32) (fun r7 => (vp_in r7 24 ∧ (∀ x8 : Int32, x8 = ((A_puts r6.toNatClampNeg) ||| (A_puts r7.toNatClampNeg)) → ((((p2 >>> ((((3 : Int32) * i6_5) + i15_6) &&& 31)) &&& (1 : Int32)) = (1 : Int32) → (∀ x12 : Int32, x12 = (i15_4 ||| (x8 <<< (((3 : Int32) * i6_5) &&& 31))) → (∀ x13 : Int32, x13 = i15_6 + (1 : Int32) → P15 x12 x13))) ∧ (¬ ((p2 >>> ((((3 : Int32) * i6_5) + i15_6) &&& 31)) &&& (1 : Int32)) = (1 : Int32) → (∀ x10 : Int32, x10 = (i15_4 ||| (0 : Int32)) → (∀ x11 : Int32, x11 = i15_6 + (1 : Int32) → P15 x10 x11))))))))))))))))) → P15 i15_4 i15_6) → P15 i15_4 i15_6
def wX12_opened_L6 (p0 : Int32) (p1 : Int32) (p2 : Int32) (A_puts : Nat → Int32) (E6 : Int32 → Int32 → Prop) (i6_4 : Int32) (i6_5 : Int32) : Prop :=
  ∀ P6 : Int32 → Int32 → Prop, (∀ (i6_4 : Int32) (i6_5 : Int32), (((2 : Int32) ≤ i6_5 → E6 i6_4 i6_5) ∧ (¬ (2 : Int32) ≤ i6_5 → (∀ E15 : Int32 → Int32 → Prop, (∀ (i15_4 : Int32) (i15_6 : Int32), (∀ x2 : Int32, x2 = i6_5 + (1 : Int32) → P6 i15_4 x2) → E15 i15_4 i15_6) → wX12_opened_L15 p0 p1 p2 A_puts i6_5 E15 i6_4 (0 : Int32)))) → P6 i6_4 i6_5) → P6 i6_4 i6_5
def wX12_opened (p0 : Int32) (p1 : Int32) (p2 : Int32) (A_puts : Nat → Int32) (K : Int32 → Prop) : Prop :=
  (wX12_opened_L6 p0 p1 p2 A_puts (fun i6_4 i6_5 => K i6_4) (0 : Int32) (0 : Int32))
abbrev rmX12_opened : Room := { frames := 1, cells := 0, slots := 0, locals := 23 }
theorem nd_X12_opened : yX12_opened.cls = RX12 ∧ yX12_opened.cls ≠ "java/lang/invoke/MethodHandle" ∧ yX12_opened.cls ≠ "java/lang/invoke/VarHandle" ∧ (parseMethodDescriptor yX12_opened.desc).map (fun d => d.parameters.length) = some 3 := by decide +kernel
theorem hkX12_opened_X12 : ∀ w ∈ u_ws RX12 TX12 51, w ∈ wsX12_opened := fun w h => List.mem_cons_of_mem _ (inlX12 w h)
theorem hfX12_opened_19 : (Cond.fieldLink RX12 19 "NestReadersModel" "puts" "[I") ∈ wsX12_opened := List.mem_cons_of_mem _ m8_23
set_option maxHeartbeats 4000000 in
set_option maxRecDepth 100000 in
theorem c_X12_opened (l : Launch) (G : va_G) (cI cJ cZ : ClassId) (q_t q_t_states q_t_markMany q_t_takes q_t_puts q_t_goes q_t_closes q_t_text q_t_read q_t_row q_t_partner q_t_some q_t_stackCome q_t_stackSince q_t_stackLetter q_t_runs q_t_ways q_t_keptRuns q_t_keptWays q_t_rel q_t_whole q_t_wholeLong q_t_nodeCome q_t_nodeSince q_t_nodeDeep q_t_nodeLong q_t_wholeMany q_t_blockTo q_t_nodeMany q_t_listCome q_t_listSince q_t_nextCome q_t_nextSince : Nat) (F_bytes : Int32) (F_position : Int32) (F_tokenAt : Int32) (F_token : Int64) (F_digits : Int32) (F_number : Int32) (F_faultAt : Int32) (F_readMany : Int32) (F_size : Int32) (F_stacked : Int32) (F_come : Int32) (F_since : Int32) (F_known : Int32) (F_isSpent : Int32) (F_wholes : Int32) (F_nodes : Int32) (F_places : Int32) (F_listed : Int32) (F_nexts : Int32) (A_puts : Nat → Int32) (p0 : Int32) (p1 : Int32) (p2 : Int32) {K : Int32 → Prop} (hw : wX12_opened p0 p1 p2 A_puts K) : Met l yX12_opened wsX12_opened rmX12_opened (ms_P G (ms_T cI cJ cZ) [(q_t, .inr (12, [.ref q_t_states, .ref q_t_markMany, .ref q_t_takes, .ref q_t_puts, .ref q_t_goes, .ref q_t_closes, .int F_bytes, .ref q_t_text, .int F_position, .int F_tokenAt, .long F_token, .int F_digits, .int F_number, .int F_faultAt, .int F_readMany, .ref q_t_read, .int F_size, .ref q_t_row, .ref q_t_partner, .ref q_t_some, .ref q_t_stackCome, .ref q_t_stackSince, .ref q_t_stackLetter, .int F_stacked, .int F_come, .int F_since, .ref q_t_runs, .ref q_t_ways, .ref q_t_keptRuns, .ref q_t_keptWays, .ref q_t_rel, .int F_known, .int F_isSpent, .ref q_t_whole, .ref q_t_wholeLong, .int F_wholes, .ref q_t_nodeCome, .ref q_t_nodeSince, .ref q_t_nodeDeep, .ref q_t_nodeLong, .int F_nodes, .int F_places, .ref q_t_wholeMany, .ref q_t_blockTo, .ref q_t_nodeMany, .ref q_t_listCome, .ref q_t_listSince, .int F_listed, .ref q_t_nextCome, .ref q_t_nextSince, .int F_nexts])), (q_t_puts, .inl (cI, 24, .inl A_puts))] [.ref q_t, .int p0, .int p1, .int p2]) (ms_Qi K) 0 0 ms_N := by
  refine ms_si (cc := cX12_opened) (maxL := 8) (ty := .int) (by decide) rfl (Nat.le_of_ble_eq_true rfl) ?_
  intro p e s m args below meth c Q hx hb hml hown hts hK hP hD hRet ls hl
  have hl : lv_has ls 8 [(0, .ref q_t), (1, .int p0), (2, .int p1), (3, .int p2)] := hl
  have hown : s.vm.findClass RX12 = some m.cls := hown
  refine lv_iconst (v := 0) hx hb dX12_opened_0 (by decide) ?_
  refine lv_istore (lv' := [(4, .int (0 : Int32)), (0, .ref q_t), (1, .int p0), (2, .int p1), (3, .int p2)]) hx hb dX12_opened_1 hl (by decide) rfl (fun ls hl => ?_)
  refine lv_iconst (v := 0) hx hb dX12_opened_3 (by decide) ?_
  refine lv_istore (lv' := [(5, .int (0 : Int32)), (4, .int (0 : Int32)), (0, .ref q_t), (1, .int p0), (2, .int p1), (3, .int p2)]) hx hb dX12_opened_4 hl (by decide) rfl (fun ls hl => ?_)
  refine hw (fun i6_4 i6_5 => ∀ ls : Array Slot, lv_has ls 8 [(0, .ref q_t), (1, .int p0), (2, .int p1), (3, .int p2), (4, .int i6_4), (5, .int i6_5)] → W p l e rmX12_opened s m args below meth c s.heap [] 0 0 Q (F0 m 6 ls [])) (fun i6_4 i6_5 hw ls hl => ?_) ls (lv_sub hl [2, 3, 4, 5, 1, 0] rfl)
  refine lv_iload hx hb dX12_opened_6 (lv_at hl 5 rfl) ?_
  refine lv_iconst (v := 2) hx hb dX12_opened_8 (by decide) ?_
  refine lv_icmp_ge (tgt := 104) hx hb dX12_opened_9 (by decide) (fun c1 => ?_) (fun c1 => ?_)
  · have hw := hw.1 c1
    refine lv_iload hx hb dX12_opened_104 (lv_at hl 4 rfl) ?_
    exact hRet i6_4 _ _ hw (vp_nar_int _) dX12_opened_106
  · have hw := hw.2 c1
    refine lv_iconst (v := 0) hx hb dX12_opened_12 (by decide) ?_
    refine lv_istore (lv' := [(6, .int (0 : Int32)), (0, .ref q_t), (1, .int p0), (2, .int p1), (3, .int p2), (4, .int i6_4), (5, .int i6_5)]) hx hb dX12_opened_13 hl (by decide) rfl (fun ls hl => ?_)
    have hw := hw (fun i15_4 i15_6 => ∀ ls : Array Slot, lv_has ls 8 [(0, .ref q_t), (1, .int p0), (2, .int p1), (3, .int p2), (4, .int i15_4), (5, .int i6_5)] → W p l e rmX12_opened s m args below meth c s.heap [] 0 0 Q (F0 m 98 ls [])) (fun i15_4 i15_6 hw ls hl => by
      obtain ⟨x2, ex2⟩ : ∃ y : Int32, y = i6_5 + (1 : Int32) := ⟨_, rfl⟩
      have hw := hw x2 ex2
      refine lv_iinc (v := x2) (lv' := [(5, .int x2), (0, .ref q_t), (1, .int p0), (2, .int p1), (3, .int p2), (4, .int i15_4)]) hx hb dX12_opened_98 hl (k := 5) rfl (by rw [ex2]; rfl) (by decide) rfl (fun ls hl => ?_)
      refine lv_goto (tgt := 6) hx hb dX12_opened_101 (by decide) ?_
      exact hw ls (lv_sub hl [1, 2, 3, 4, 5, 0] rfl)
      )
    refine hw (fun i15_4 i15_6 => ∀ ls : Array Slot, lv_has ls 8 [(0, .ref q_t), (1, .int p0), (2, .int p1), (3, .int p2), (4, .int i15_4), (5, .int i6_5), (6, .int i15_6)] → W p l e rmX12_opened s m args below meth c s.heap [] 0 0 Q (F0 m 15 ls [])) (fun i15_4 i15_6 hw ls hl => ?_) ls (lv_sub hl [1, 2, 3, 4, 5, 6, 0] rfl)
    refine lv_iload hx hb dX12_opened_15 (lv_at hl 6 rfl) ?_
    refine lv_iconst (v := 3) hx hb dX12_opened_17 (by decide) ?_
    refine lv_icmp_ge (tgt := 98) hx hb dX12_opened_18 (by decide) (fun c3 => ?_) (fun c3 => ?_)
    · have hw := hw.1 c3
      exact hw ls (lv_sub hl [0, 1, 2, 3, 4, 5] rfl)
    · have hw := hw.2 c3
      refine lv_iload_n hx hb dX12_opened_21 rfl (lv_at hl 1 rfl) ?_
      refine lv_iload hx hb dX12_opened_22 (lv_at hl 5 rfl) ?_
      refine ms_cSi ⟨hx, hb, hml, hown, hts⟩ hK hP hD (c_X12_isOf l G cI cJ cZ p0 i6_5 hw) gX12_opened_X12_isOf rfl nd_X12_isOf ⟨rfl, rfl⟩ rfl ⟨Nat.le_of_ble_eq_true rfl, Nat.le_of_ble_eq_true rfl⟩ hl.1 (rest := []) rfl (Nat.le_of_ble_eq_true rfl)  [] rfl rfl dX12_opened_24 (fun r4 hw => ?_)
      have zzr4 := hw.1
      have hw := hw.2
      refine lv_if_eq (tgt := 98) hx hb dX12_opened_27 (by decide) (fun c5 => ?_) (fun c5 => ?_)
      · have hw := hw.1 c5
        exact hw ls (lv_sub hl [0, 1, 2, 3, 4, 5] rfl)
      · have hw := hw.2 c5
        refine lv_aload_n hx hb dX12_opened_30 rfl (lv_at hl 0 rfl) ?_
        refine va_get (D := G) (ci := 12) (v := .ref q_t_puts) (C := RX12) (T := TX12) (N := 51) hx hb hts hkX12_opened_X12 hown hK hP 0 rfl rfl 3 (by decide) (hts (.fieldLink RX12 19 "NestReadersModel" "puts" "[I") hfX12_opened_19) (fun _ h9 => h9) rfl dX12_opened_31 ?_
        refine lv_iload hx hb dX12_opened_34 (lv_at hl 5 rfl) ?_
        refine lv_iload_n hx hb dX12_opened_36 rfl (lv_at hl 2 rfl) ?_
        refine lv_iload hx hb dX12_opened_37 (lv_at hl 6 rfl) ?_
        refine lv_iconst (v := 0) hx hb dX12_opened_39 (by decide) ?_
        refine ms_cSi ⟨hx, hb, hml, hown, hts⟩ hK hP hD (c_X12_putAt l G cI cJ cZ i6_5 p1 i15_6 (0 : Int32) hw) gX12_opened_X12_putAt rfl nd_X12_putAt ⟨rfl, rfl⟩ rfl ⟨Nat.le_of_ble_eq_true rfl, Nat.le_of_ble_eq_true rfl⟩ hl.1 (rest := [.ref q_t_puts]) rfl (Nat.le_of_ble_eq_true rfl)  [] rfl rfl dX12_opened_40 (fun r6 hw => ?_)
        refine va_iald (D := G) hx hb hK hP 1 0 rfl rfl hw.1 dX12_opened_43 ?_
        have hw := hw.2
        refine lv_aload_n hx hb dX12_opened_44 rfl (lv_at hl 0 rfl) ?_
        refine va_get (D := G) (ci := 12) (v := .ref q_t_puts) (C := RX12) (T := TX12) (N := 51) hx hb hts hkX12_opened_X12 hown hK hP 0 rfl rfl 3 (by decide) (hts (.fieldLink RX12 19 "NestReadersModel" "puts" "[I") hfX12_opened_19) (fun _ h9 => h9) rfl dX12_opened_45 ?_
        refine lv_iload hx hb dX12_opened_48 (lv_at hl 5 rfl) ?_
        refine lv_iload_n hx hb dX12_opened_50 rfl (lv_at hl 2 rfl) ?_
        refine lv_iload hx hb dX12_opened_51 (lv_at hl 6 rfl) ?_
        refine lv_iconst (v := 1) hx hb dX12_opened_53 (by decide) ?_
        refine ms_cSi ⟨hx, hb, hml, hown, hts⟩ hK hP hD (c_X12_putAt l G cI cJ cZ i6_5 p1 i15_6 (1 : Int32) hw) gX12_opened_X12_putAt rfl nd_X12_putAt ⟨rfl, rfl⟩ rfl ⟨Nat.le_of_ble_eq_true rfl, Nat.le_of_ble_eq_true rfl⟩ hl.1 (rest := [.ref q_t_puts, .int (A_puts r6.toNatClampNeg)]) rfl (Nat.le_of_ble_eq_true rfl)  [] rfl rfl dX12_opened_54 (fun r7 hw => ?_)
        refine va_iald (D := G) hx hb hK hP 1 0 rfl rfl hw.1 dX12_opened_57 ?_
        have hw := hw.2
        refine lv_ior hx hb dX12_opened_58 ?_
        refine lv_topi (fun x8 ex8 => ?_)
        have hw := hw x8 ex8
        refine lv_istore (lv' := [(7, .int x8), (0, .ref q_t), (1, .int p0), (2, .int p1), (3, .int p2), (4, .int i15_4), (5, .int i6_5), (6, .int i15_6)]) hx hb dX12_opened_59 hl (by decide) rfl (fun ls hl => ?_)
        refine lv_iload hx hb dX12_opened_61 (lv_at hl 5 rfl) ?_
        refine lv_iload_n hx hb dX12_opened_63 rfl (lv_at hl 4 rfl) ?_
        refine lv_iconst (v := 3) hx hb dX12_opened_64 (by decide) ?_
        refine lv_iload hx hb dX12_opened_65 (lv_at hl 6 rfl) ?_
        refine lv_imul hx hb dX12_opened_67 ?_
        refine lv_iload hx hb dX12_opened_68 (lv_at hl 7 rfl) ?_
        refine lv_iadd hx hb dX12_opened_70 ?_
        refine lv_ishr hx hb dX12_opened_71 ?_
        refine lv_iconst (v := 1) hx hb dX12_opened_72 (by decide) ?_
        refine lv_iand hx hb dX12_opened_73 ?_
        refine lv_iconst (v := 1) hx hb dX12_opened_74 (by decide) ?_
        refine lv_icmp_ne (tgt := 88) hx hb dX12_opened_75 (by decide) (fun c9 => ?_) (fun c9 => ?_)
        · have hw := hw.2 c9
          refine lv_iconst (v := 0) hx hb dX12_opened_88 (by decide) ?_
          refine lv_ior hx hb dX12_opened_89 ?_
          refine lv_topi (fun x10 ex10 => ?_)
          have hw := hw x10 ex10
          refine lv_istore (lv' := [(4, .int x10), (7, .int x8), (0, .ref q_t), (1, .int p0), (2, .int p1), (3, .int p2), (5, .int i6_5), (6, .int i15_6)]) hx hb dX12_opened_90 hl (by decide) rfl (fun ls hl => ?_)
          obtain ⟨x11, ex11⟩ : ∃ y : Int32, y = i15_6 + (1 : Int32) := ⟨_, rfl⟩
          have hw := hw x11 ex11
          refine lv_iinc (v := x11) (lv' := [(6, .int x11), (4, .int x10), (7, .int x8), (0, .ref q_t), (1, .int p0), (2, .int p1), (3, .int p2), (5, .int i6_5)]) hx hb dX12_opened_92 hl (k := 7) rfl (by rw [ex11]; rfl) (by decide) rfl (fun ls hl => ?_)
          refine lv_goto (tgt := 15) hx hb dX12_opened_95 (by decide) ?_
          exact hw ls (lv_sub hl [3, 4, 5, 6, 1, 7, 0] rfl)
        · have hw := hw.1 c9
          refine lv_iload hx hb dX12_opened_78 (lv_at hl 0 rfl) ?_
          refine lv_iconst (v := 3) hx hb dX12_opened_80 (by decide) ?_
          refine lv_iload hx hb dX12_opened_81 (lv_at hl 6 rfl) ?_
          refine lv_imul hx hb dX12_opened_83 ?_
          refine lv_ishl hx hb dX12_opened_84 ?_
          refine lv_goto (tgt := 89) hx hb dX12_opened_85 (by decide) ?_
          refine lv_ior hx hb dX12_opened_89 ?_
          refine lv_topi (fun x12 ex12 => ?_)
          have hw := hw x12 ex12
          refine lv_istore (lv' := [(4, .int x12), (7, .int x8), (0, .ref q_t), (1, .int p0), (2, .int p1), (3, .int p2), (5, .int i6_5), (6, .int i15_6)]) hx hb dX12_opened_90 hl (by decide) rfl (fun ls hl => ?_)
          obtain ⟨x13, ex13⟩ : ∃ y : Int32, y = i15_6 + (1 : Int32) := ⟨_, rfl⟩
          have hw := hw x13 ex13
          refine lv_iinc (v := x13) (lv' := [(6, .int x13), (4, .int x12), (7, .int x8), (0, .ref q_t), (1, .int p0), (2, .int p1), (3, .int p2), (5, .int i6_5)]) hx hb dX12_opened_92 hl (k := 7) rfl (by rw [ex13]; rfl) (by decide) rfl (fun ls hl => ?_)
          refine lv_goto (tgt := 15) hx hb dX12_opened_95 (by decide) ?_
          exact hw ls (lv_sub hl [3, 4, 5, 6, 1, 7, 0] rfl)
def wX12_closedOff_L15 (p0 : Int32) (p1 : Int32) (p2 : Int32) (A_closes : Nat → Int32) (i6_5 : Int32) (E15 : Int32 → Int32 → Prop) (i15_4 : Int32) (i15_6 : Int32) : Prop :=
  ∀ P15 : Int32 → Int32 → Prop, (∀ (i15_4 : Int32) (i15_6 : Int32), (((3 : Int32) ≤ i15_6 → E15 i15_4 i15_6) ∧ (¬ (3 : Int32) ≤ i15_6 → (wX12_isOf p0 i6_5 (fun r4 => ((r4 = (0 : Int32) → E15 i15_4 i15_6) ∧ (¬ r4 = (0 : Int32) → ((((p2 >>> ((((3 : Int32) * i6_5) + i15_6) &&& 31)) &&& (1 : Int32)) = (1 : Int32) → (wX12_closeAt i6_5 p1 i15_6 (-1 : Int32) (fun r9 => (vp_in r9 36 ∧ (∀ x10 : Int32, x10 = (i15_4 ||| ((A_closes r9.toNatClampNeg) <<< (((3 : Int32) * i6_5) &&& 31))) → (∀ x11 : Int32, x11 = i15_6 + (1 : Int32) → P15 x10 x11)))))) ∧ (¬ ((p2 >>> ((((3 : Int32) * i6_5) + i15_6) &&& 31)) &&& (1 : Int32)) = (1 : Int32) → (∀ x7 : Int32, x7 = (i15_4 ||| (0 : Int32)) → (∀ x8 : Int32, x8 = i15_6 + (1 : Int32) → P15 x7 x8)))))))))) → P15 i15_4 i15_6) → P15 i15_4 i15_6
def wX12_closedOff_L6 (p0 : Int32) (p1 : Int32) (p2 : Int32) (A_closes : Nat → Int32) (E6 : Int32 → Int32 → Prop) (i6_4 : Int32) (i6_5 : Int32) : Prop :=
  ∀ P6 : Int32 → Int32 → Prop, (∀ (i6_4 : Int32) (i6_5 : Int32), (((2 : Int32) ≤ i6_5 → E6 i6_4 i6_5) ∧ (¬ (2 : Int32) ≤ i6_5 → (∀ E15 : Int32 → Int32 → Prop, (∀ (i15_4 : Int32) (i15_6 : Int32), (∀ x2 : Int32, x2 = i6_5 + (1 : Int32) → P6 i15_4 x2) → E15 i15_4 i15_6) → wX12_closedOff_L15 p0 p1 p2 A_closes i6_5 E15 i6_4 (0 : Int32)))) → P6 i6_4 i6_5) → P6 i6_4 i6_5
def wX12_closedOff (p0 : Int32) (p1 : Int32) (p2 : Int32) (A_closes : Nat → Int32) (K : Int32 → Prop) : Prop :=
  (wX12_closedOff_L6 p0 p1 p2 A_closes (fun i6_4 i6_5 => K i6_4) (0 : Int32) (0 : Int32))
abbrev rmX12_closedOff : Room := { frames := 1, cells := 0, slots := 0, locals := 23 }
theorem nd_X12_closedOff : yX12_closedOff.cls = RX12 ∧ yX12_closedOff.cls ≠ "java/lang/invoke/MethodHandle" ∧ yX12_closedOff.cls ≠ "java/lang/invoke/VarHandle" ∧ (parseMethodDescriptor yX12_closedOff.desc).map (fun d => d.parameters.length) = some 3 := by decide +kernel
theorem hkX12_closedOff_X12 : ∀ w ∈ u_ws RX12 TX12 51, w ∈ wsX12_closedOff := fun w h => List.mem_cons_of_mem _ (inlX12 w h)
theorem hfX12_closedOff_25 : (Cond.fieldLink RX12 25 "NestReadersModel" "closes" "[I") ∈ wsX12_closedOff := List.mem_cons_of_mem _ m9_1
set_option maxHeartbeats 4000000 in
set_option maxRecDepth 100000 in
theorem c_X12_closedOff (l : Launch) (G : va_G) (cI cJ cZ : ClassId) (q_t q_t_states q_t_markMany q_t_takes q_t_puts q_t_goes q_t_closes q_t_text q_t_read q_t_row q_t_partner q_t_some q_t_stackCome q_t_stackSince q_t_stackLetter q_t_runs q_t_ways q_t_keptRuns q_t_keptWays q_t_rel q_t_whole q_t_wholeLong q_t_nodeCome q_t_nodeSince q_t_nodeDeep q_t_nodeLong q_t_wholeMany q_t_blockTo q_t_nodeMany q_t_listCome q_t_listSince q_t_nextCome q_t_nextSince : Nat) (F_bytes : Int32) (F_position : Int32) (F_tokenAt : Int32) (F_token : Int64) (F_digits : Int32) (F_number : Int32) (F_faultAt : Int32) (F_readMany : Int32) (F_size : Int32) (F_stacked : Int32) (F_come : Int32) (F_since : Int32) (F_known : Int32) (F_isSpent : Int32) (F_wholes : Int32) (F_nodes : Int32) (F_places : Int32) (F_listed : Int32) (F_nexts : Int32) (A_closes : Nat → Int32) (p0 : Int32) (p1 : Int32) (p2 : Int32) {K : Int32 → Prop} (hw : wX12_closedOff p0 p1 p2 A_closes K) : Met l yX12_closedOff wsX12_closedOff rmX12_closedOff (ms_P G (ms_T cI cJ cZ) [(q_t, .inr (12, [.ref q_t_states, .ref q_t_markMany, .ref q_t_takes, .ref q_t_puts, .ref q_t_goes, .ref q_t_closes, .int F_bytes, .ref q_t_text, .int F_position, .int F_tokenAt, .long F_token, .int F_digits, .int F_number, .int F_faultAt, .int F_readMany, .ref q_t_read, .int F_size, .ref q_t_row, .ref q_t_partner, .ref q_t_some, .ref q_t_stackCome, .ref q_t_stackSince, .ref q_t_stackLetter, .int F_stacked, .int F_come, .int F_since, .ref q_t_runs, .ref q_t_ways, .ref q_t_keptRuns, .ref q_t_keptWays, .ref q_t_rel, .int F_known, .int F_isSpent, .ref q_t_whole, .ref q_t_wholeLong, .int F_wholes, .ref q_t_nodeCome, .ref q_t_nodeSince, .ref q_t_nodeDeep, .ref q_t_nodeLong, .int F_nodes, .int F_places, .ref q_t_wholeMany, .ref q_t_blockTo, .ref q_t_nodeMany, .ref q_t_listCome, .ref q_t_listSince, .int F_listed, .ref q_t_nextCome, .ref q_t_nextSince, .int F_nexts])), (q_t_closes, .inl (cI, 36, .inl A_closes))] [.ref q_t, .int p0, .int p1, .int p2]) (ms_Qi K) 0 0 ms_N := by
  refine ms_si (cc := cX12_closedOff) (maxL := 7) (ty := .int) (by decide) rfl (Nat.le_of_ble_eq_true rfl) ?_
  intro p e s m args below meth c Q hx hb hml hown hts hK hP hD hRet ls hl
  have hl : lv_has ls 7 [(0, .ref q_t), (1, .int p0), (2, .int p1), (3, .int p2)] := hl
  have hown : s.vm.findClass RX12 = some m.cls := hown
  refine lv_iconst (v := 0) hx hb dX12_closedOff_0 (by decide) ?_
  refine lv_istore (lv' := [(4, .int (0 : Int32)), (0, .ref q_t), (1, .int p0), (2, .int p1), (3, .int p2)]) hx hb dX12_closedOff_1 hl (by decide) rfl (fun ls hl => ?_)
  refine lv_iconst (v := 0) hx hb dX12_closedOff_3 (by decide) ?_
  refine lv_istore (lv' := [(5, .int (0 : Int32)), (4, .int (0 : Int32)), (0, .ref q_t), (1, .int p0), (2, .int p1), (3, .int p2)]) hx hb dX12_closedOff_4 hl (by decide) rfl (fun ls hl => ?_)
  refine hw (fun i6_4 i6_5 => ∀ ls : Array Slot, lv_has ls 7 [(0, .ref q_t), (1, .int p0), (2, .int p1), (3, .int p2), (4, .int i6_4), (5, .int i6_5)] → W p l e rmX12_closedOff s m args below meth c s.heap [] 0 0 Q (F0 m 6 ls [])) (fun i6_4 i6_5 hw ls hl => ?_) ls (lv_sub hl [2, 3, 4, 5, 1, 0] rfl)
  refine lv_iload hx hb dX12_closedOff_6 (lv_at hl 5 rfl) ?_
  refine lv_iconst (v := 2) hx hb dX12_closedOff_8 (by decide) ?_
  refine lv_icmp_ge (tgt := 85) hx hb dX12_closedOff_9 (by decide) (fun c1 => ?_) (fun c1 => ?_)
  · have hw := hw.1 c1
    refine lv_iload hx hb dX12_closedOff_85 (lv_at hl 4 rfl) ?_
    exact hRet i6_4 _ _ hw (vp_nar_int _) dX12_closedOff_87
  · have hw := hw.2 c1
    refine lv_iconst (v := 0) hx hb dX12_closedOff_12 (by decide) ?_
    refine lv_istore (lv' := [(6, .int (0 : Int32)), (0, .ref q_t), (1, .int p0), (2, .int p1), (3, .int p2), (4, .int i6_4), (5, .int i6_5)]) hx hb dX12_closedOff_13 hl (by decide) rfl (fun ls hl => ?_)
    have hw := hw (fun i15_4 i15_6 => ∀ ls : Array Slot, lv_has ls 7 [(0, .ref q_t), (1, .int p0), (2, .int p1), (3, .int p2), (4, .int i15_4), (5, .int i6_5)] → W p l e rmX12_closedOff s m args below meth c s.heap [] 0 0 Q (F0 m 79 ls [])) (fun i15_4 i15_6 hw ls hl => by
      obtain ⟨x2, ex2⟩ : ∃ y : Int32, y = i6_5 + (1 : Int32) := ⟨_, rfl⟩
      have hw := hw x2 ex2
      refine lv_iinc (v := x2) (lv' := [(5, .int x2), (0, .ref q_t), (1, .int p0), (2, .int p1), (3, .int p2), (4, .int i15_4)]) hx hb dX12_closedOff_79 hl (k := 5) rfl (by rw [ex2]; rfl) (by decide) rfl (fun ls hl => ?_)
      refine lv_goto (tgt := 6) hx hb dX12_closedOff_82 (by decide) ?_
      exact hw ls (lv_sub hl [1, 2, 3, 4, 5, 0] rfl)
      )
    refine hw (fun i15_4 i15_6 => ∀ ls : Array Slot, lv_has ls 7 [(0, .ref q_t), (1, .int p0), (2, .int p1), (3, .int p2), (4, .int i15_4), (5, .int i6_5), (6, .int i15_6)] → W p l e rmX12_closedOff s m args below meth c s.heap [] 0 0 Q (F0 m 15 ls [])) (fun i15_4 i15_6 hw ls hl => ?_) ls (lv_sub hl [1, 2, 3, 4, 5, 6, 0] rfl)
    refine lv_iload hx hb dX12_closedOff_15 (lv_at hl 6 rfl) ?_
    refine lv_iconst (v := 3) hx hb dX12_closedOff_17 (by decide) ?_
    refine lv_icmp_ge (tgt := 79) hx hb dX12_closedOff_18 (by decide) (fun c3 => ?_) (fun c3 => ?_)
    · have hw := hw.1 c3
      exact hw ls (lv_sub hl [0, 1, 2, 3, 4, 5] rfl)
    · have hw := hw.2 c3
      refine lv_iload_n hx hb dX12_closedOff_21 rfl (lv_at hl 1 rfl) ?_
      refine lv_iload hx hb dX12_closedOff_22 (lv_at hl 5 rfl) ?_
      refine ms_cSi ⟨hx, hb, hml, hown, hts⟩ hK hP hD (c_X12_isOf l G cI cJ cZ p0 i6_5 hw) gX12_closedOff_X12_isOf rfl nd_X12_isOf ⟨rfl, rfl⟩ rfl ⟨Nat.le_of_ble_eq_true rfl, Nat.le_of_ble_eq_true rfl⟩ hl.1 (rest := []) rfl (Nat.le_of_ble_eq_true rfl)  [] rfl rfl dX12_closedOff_24 (fun r4 hw => ?_)
      have zzr4 := hw.1
      have hw := hw.2
      refine lv_if_eq (tgt := 79) hx hb dX12_closedOff_27 (by decide) (fun c5 => ?_) (fun c5 => ?_)
      · have hw := hw.1 c5
        exact hw ls (lv_sub hl [0, 1, 2, 3, 4, 5] rfl)
      · have hw := hw.2 c5
        refine lv_iload hx hb dX12_closedOff_30 (lv_at hl 4 rfl) ?_
        refine lv_iload_n hx hb dX12_closedOff_32 rfl (lv_at hl 3 rfl) ?_
        refine lv_iconst (v := 3) hx hb dX12_closedOff_33 (by decide) ?_
        refine lv_iload hx hb dX12_closedOff_34 (lv_at hl 5 rfl) ?_
        refine lv_imul hx hb dX12_closedOff_36 ?_
        refine lv_iload hx hb dX12_closedOff_37 (lv_at hl 6 rfl) ?_
        refine lv_iadd hx hb dX12_closedOff_39 ?_
        refine lv_ishr hx hb dX12_closedOff_40 ?_
        refine lv_iconst (v := 1) hx hb dX12_closedOff_41 (by decide) ?_
        refine lv_iand hx hb dX12_closedOff_42 ?_
        refine lv_iconst (v := 1) hx hb dX12_closedOff_43 (by decide) ?_
        refine lv_icmp_ne (tgt := 69) hx hb dX12_closedOff_44 (by decide) (fun c6 => ?_) (fun c6 => ?_)
        · have hw := hw.2 c6
          refine lv_iconst (v := 0) hx hb dX12_closedOff_69 (by decide) ?_
          refine lv_ior hx hb dX12_closedOff_70 ?_
          refine lv_topi (fun x7 ex7 => ?_)
          have hw := hw x7 ex7
          refine lv_istore (lv' := [(4, .int x7), (0, .ref q_t), (1, .int p0), (2, .int p1), (3, .int p2), (5, .int i6_5), (6, .int i15_6)]) hx hb dX12_closedOff_71 hl (by decide) rfl (fun ls hl => ?_)
          obtain ⟨x8, ex8⟩ : ∃ y : Int32, y = i15_6 + (1 : Int32) := ⟨_, rfl⟩
          have hw := hw x8 ex8
          refine lv_iinc (v := x8) (lv' := [(6, .int x8), (4, .int x7), (0, .ref q_t), (1, .int p0), (2, .int p1), (3, .int p2), (5, .int i6_5)]) hx hb dX12_closedOff_73 hl (k := 6) rfl (by rw [ex8]; rfl) (by decide) rfl (fun ls hl => ?_)
          refine lv_goto (tgt := 15) hx hb dX12_closedOff_76 (by decide) ?_
          exact hw ls (lv_sub hl [2, 3, 4, 5, 1, 6, 0] rfl)
        · have hw := hw.1 c6
          refine lv_aload_n hx hb dX12_closedOff_47 rfl (lv_at hl 0 rfl) ?_
          refine va_get (D := G) (ci := 12) (v := .ref q_t_closes) (C := RX12) (T := TX12) (N := 51) hx hb hts hkX12_closedOff_X12 hown hK hP 0 rfl rfl 5 (by decide) (hts (.fieldLink RX12 25 "NestReadersModel" "closes" "[I") hfX12_closedOff_25) (fun _ h9 => h9) rfl dX12_closedOff_48 ?_
          refine lv_iload hx hb dX12_closedOff_51 (lv_at hl 5 rfl) ?_
          refine lv_iload_n hx hb dX12_closedOff_53 rfl (lv_at hl 2 rfl) ?_
          refine lv_iload hx hb dX12_closedOff_54 (lv_at hl 6 rfl) ?_
          refine lv_iconst (v := (-1)) hx hb dX12_closedOff_56 (by decide) ?_
          refine ms_cSi ⟨hx, hb, hml, hown, hts⟩ hK hP hD (c_X12_closeAt l G cI cJ cZ i6_5 p1 i15_6 (-1 : Int32) hw) gX12_closedOff_X12_closeAt rfl nd_X12_closeAt ⟨rfl, rfl⟩ rfl ⟨Nat.le_of_ble_eq_true rfl, Nat.le_of_ble_eq_true rfl⟩ hl.1 (rest := [.ref q_t_closes, .int i15_4]) rfl (Nat.le_of_ble_eq_true rfl)  [] rfl rfl dX12_closedOff_57 (fun r9 hw => ?_)
          refine va_iald (D := G) hx hb hK hP 1 0 rfl rfl hw.1 dX12_closedOff_60 ?_
          have hw := hw.2
          refine lv_iconst (v := 3) hx hb dX12_closedOff_61 (by decide) ?_
          refine lv_iload hx hb dX12_closedOff_62 (lv_at hl 5 rfl) ?_
          refine lv_imul hx hb dX12_closedOff_64 ?_
          refine lv_ishl hx hb dX12_closedOff_65 ?_
          refine lv_goto (tgt := 70) hx hb dX12_closedOff_66 (by decide) ?_
          refine lv_ior hx hb dX12_closedOff_70 ?_
          refine lv_topi (fun x10 ex10 => ?_)
          have hw := hw x10 ex10
          refine lv_istore (lv' := [(4, .int x10), (0, .ref q_t), (1, .int p0), (2, .int p1), (3, .int p2), (5, .int i6_5), (6, .int i15_6)]) hx hb dX12_closedOff_71 hl (by decide) rfl (fun ls hl => ?_)
          obtain ⟨x11, ex11⟩ : ∃ y : Int32, y = i15_6 + (1 : Int32) := ⟨_, rfl⟩
          have hw := hw x11 ex11
          refine lv_iinc (v := x11) (lv' := [(6, .int x11), (4, .int x10), (0, .ref q_t), (1, .int p0), (2, .int p1), (3, .int p2), (5, .int i6_5)]) hx hb dX12_closedOff_73 hl (k := 6) rfl (by rw [ex11]; rfl) (by decide) rfl (fun ls hl => ?_)
          refine lv_goto (tgt := 15) hx hb dX12_closedOff_76 (by decide) ?_
          exact hw ls (lv_sub hl [2, 3, 4, 5, 1, 6, 0] rfl)
def wX12_begun (p0 : Int32) (K : Int32 → Prop) : Prop :=
  ((p0 = (0 : Int32) → K (1 : Int32)) ∧ (¬ p0 = (0 : Int32) → ((p0 = (1 : Int32) → K (8 : Int32)) ∧ (¬ p0 = (1 : Int32) → K (9 : Int32)))))
abbrev rmX12_begun : Room := { frames := 0, cells := 0, slots := 0, locals := 0 }
theorem nd_X12_begun : yX12_begun.cls ≠ "java/lang/invoke/MethodHandle" ∧ yX12_begun.cls ≠ "java/lang/invoke/VarHandle" ∧ (parseMethodDescriptor yX12_begun.desc).map (fun d => d.parameters.length) = some 1 := by decide +kernel
set_option maxHeartbeats 4000000 in
set_option maxRecDepth 100000 in
theorem c_X12_begun (l : Launch) (G : va_G) (cI cJ cZ : ClassId) (p0 : Int32) {K : Int32 → Prop} (hw : wX12_begun p0 K) : Met l yX12_begun wsX12_begun rmX12_begun (ms_P G (ms_T cI cJ cZ) [] [.int p0]) (ms_Qi K) 0 0 ms_N := by
  refine ms_si (cc := cX12_begun) (maxL := 1) (ty := .int) (by decide) rfl (Nat.le_of_ble_eq_true rfl) ?_
  intro p e s m args below meth c Q hx hb hml hown hts hK hP hD hRet ls hl
  have hl : lv_has ls 1 [(0, .int p0)] := hl
  have hown : s.vm.findClass RX12 = some m.cls := hown
  refine lv_iload_n hx hb dX12_begun_0 rfl (lv_at hl 0 rfl) ?_
  refine lv_if_ne (tgt := 8) hx hb dX12_begun_1 (by decide) (fun c1 => ?_) (fun c1 => ?_)
  · have hw := hw.2 c1
    refine lv_iload_n hx hb dX12_begun_8 rfl (lv_at hl 0 rfl) ?_
    refine lv_iconst (v := 1) hx hb dX12_begun_9 (by decide) ?_
    refine lv_icmp_ne (tgt := 18) hx hb dX12_begun_10 (by decide) (fun c2 => ?_) (fun c2 => ?_)
    · have hw := hw.2 c2
      refine lv_bipush (v := (9)) hx hb dX12_begun_18 (by decide) ?_
      exact hRet (9 : Int32) _ _ hw (vp_nar_int _) dX12_begun_20
    · have hw := hw.1 c2
      refine lv_bipush (v := (8)) hx hb dX12_begun_13 (by decide) ?_
      refine lv_goto (tgt := 20) hx hb dX12_begun_15 (by decide) ?_
      exact hRet (8 : Int32) _ _ hw (vp_nar_int _) dX12_begun_20
  · have hw := hw.1 c1
    refine lv_iconst (v := 1) hx hb dX12_begun_4 (by decide) ?_
    refine lv_goto (tgt := 20) hx hb dX12_begun_5 (by decide) ?_
    exact hRet (1 : Int32) _ _ hw (vp_nar_int _) dX12_begun_20
def wX12_beginRow (p0 : Int32) (F_stacked : Int32) (F_come : Int32) (F_since : Int32) (A_states : Nat → Int32) (K : Int32 → Int32 → Int32 → Prop) : Prop :=
  (wX12_begun p0 (fun r1 => (wX12_itself p0 A_states (fun r2 => K (0 : Int32) r1 r2))))
abbrev rmX12_beginRow : Room := { frames := 2, cells := 0, slots := 0, locals := 45 }
theorem nd_X12_beginRow : yX12_beginRow.cls = RX12 ∧ yX12_beginRow.cls ≠ "java/lang/invoke/MethodHandle" ∧ yX12_beginRow.cls ≠ "java/lang/invoke/VarHandle" ∧ (parseMethodDescriptor yX12_beginRow.desc).map (fun d => d.parameters.length) = some 1 := by decide +kernel
theorem hkX12_beginRow_X12 : ∀ w ∈ u_ws RX12 TX12 51, w ∈ wsX12_beginRow := fun w h => List.mem_cons_of_mem _ (inlX12 w h)
theorem hfX12_beginRow_236 : (Cond.fieldLink RX12 236 "NestReadersModel" "stacked" "I") ∈ wsX12_beginRow := List.mem_cons_of_mem _ m31_16
theorem hfX12_beginRow_242 : (Cond.fieldLink RX12 242 "NestReadersModel" "come" "I") ∈ wsX12_beginRow := List.mem_cons_of_mem _ m30_7
theorem hfX12_beginRow_248 : (Cond.fieldLink RX12 248 "NestReadersModel" "since" "I") ∈ wsX12_beginRow := List.mem_cons_of_mem _ m31_17
set_option maxHeartbeats 4000000 in
set_option maxRecDepth 100000 in
theorem c_X12_beginRow (l : Launch) (G : va_G) (cI cJ cZ : ClassId) (q_t q_t_states q_t_markMany q_t_takes q_t_puts q_t_goes q_t_closes q_t_text q_t_read q_t_row q_t_partner q_t_some q_t_stackCome q_t_stackSince q_t_stackLetter q_t_runs q_t_ways q_t_keptRuns q_t_keptWays q_t_rel q_t_whole q_t_wholeLong q_t_nodeCome q_t_nodeSince q_t_nodeDeep q_t_nodeLong q_t_wholeMany q_t_blockTo q_t_nodeMany q_t_listCome q_t_listSince q_t_nextCome q_t_nextSince : Nat) (sz : Nat) (F_bytes : Int32) (F_position : Int32) (F_tokenAt : Int32) (F_token : Int64) (F_digits : Int32) (F_number : Int32) (F_faultAt : Int32) (F_readMany : Int32) (F_size : Int32) (F_stacked : Int32) (F_come : Int32) (F_since : Int32) (F_known : Int32) (F_isSpent : Int32) (F_wholes : Int32) (F_nodes : Int32) (F_places : Int32) (F_listed : Int32) (F_nexts : Int32) (A_states : Nat → Int32) (p0 : Int32) {K : Int32 → Int32 → Int32 → Prop} (hw : wX12_beginRow p0 F_stacked F_come F_since A_states K) : Met l yX12_beginRow wsX12_beginRow rmX12_beginRow (ms_Pz G (ms_T cI cJ cZ) [(q_t, .inr (12, [.ref q_t_states, .ref q_t_markMany, .ref q_t_takes, .ref q_t_puts, .ref q_t_goes, .ref q_t_closes, .int F_bytes, .ref q_t_text, .int F_position, .int F_tokenAt, .long F_token, .int F_digits, .int F_number, .int F_faultAt, .int F_readMany, .ref q_t_read, .int F_size, .ref q_t_row, .ref q_t_partner, .ref q_t_some, .ref q_t_stackCome, .ref q_t_stackSince, .ref q_t_stackLetter, .int F_stacked, .int F_come, .int F_since, .ref q_t_runs, .ref q_t_ways, .ref q_t_keptRuns, .ref q_t_keptWays, .ref q_t_rel, .int F_known, .int F_isSpent, .ref q_t_whole, .ref q_t_wholeLong, .int F_wholes, .ref q_t_nodeCome, .ref q_t_nodeSince, .ref q_t_nodeDeep, .ref q_t_nodeLong, .int F_nodes, .int F_places, .ref q_t_wholeMany, .ref q_t_blockTo, .ref q_t_nodeMany, .ref q_t_listCome, .ref q_t_listSince, .int F_listed, .ref q_t_nextCome, .ref q_t_nextSince, .int F_nexts])), (q_t_states, .inl (cI, 2, .inl A_states))] sz [.ref q_t, .int p0]) (ms_Wv G (ms_T cI cJ cZ) (fun (u : Int32 × Int32 × Int32) => K u.1 u.2.1 u.2.2) (fun u : Int32 × Int32 × Int32 => [(q_t, .inr (12, [.ref q_t_states, .ref q_t_markMany, .ref q_t_takes, .ref q_t_puts, .ref q_t_goes, .ref q_t_closes, .int F_bytes, .ref q_t_text, .int F_position, .int F_tokenAt, .long F_token, .int F_digits, .int F_number, .int F_faultAt, .int F_readMany, .ref q_t_read, .int F_size, .ref q_t_row, .ref q_t_partner, .ref q_t_some, .ref q_t_stackCome, .ref q_t_stackSince, .ref q_t_stackLetter, .int u.1, .int u.2.1, .int u.2.2, .ref q_t_runs, .ref q_t_ways, .ref q_t_keptRuns, .ref q_t_keptWays, .ref q_t_rel, .int F_known, .int F_isSpent, .ref q_t_whole, .ref q_t_wholeLong, .int F_wholes, .ref q_t_nodeCome, .ref q_t_nodeSince, .ref q_t_nodeDeep, .ref q_t_nodeLong, .int F_nodes, .int F_places, .ref q_t_wholeMany, .ref q_t_blockTo, .ref q_t_nodeMany, .ref q_t_listCome, .ref q_t_listSince, .int F_listed, .ref q_t_nextCome, .ref q_t_nextSince, .int F_nexts])), (q_t_states, .inl (cI, 2, .inl A_states))]) (va_A [(q_t, .inr (12, [.ref q_t_states, .ref q_t_markMany, .ref q_t_takes, .ref q_t_puts, .ref q_t_goes, .ref q_t_closes, .int F_bytes, .ref q_t_text, .int F_position, .int F_tokenAt, .long F_token, .int F_digits, .int F_number, .int F_faultAt, .int F_readMany, .ref q_t_read, .int F_size, .ref q_t_row, .ref q_t_partner, .ref q_t_some, .ref q_t_stackCome, .ref q_t_stackSince, .ref q_t_stackLetter, .int F_stacked, .int F_come, .int F_since, .ref q_t_runs, .ref q_t_ways, .ref q_t_keptRuns, .ref q_t_keptWays, .ref q_t_rel, .int F_known, .int F_isSpent, .ref q_t_whole, .ref q_t_wholeLong, .int F_wholes, .ref q_t_nodeCome, .ref q_t_nodeSince, .ref q_t_nodeDeep, .ref q_t_nodeLong, .int F_nodes, .int F_places, .ref q_t_wholeMany, .ref q_t_blockTo, .ref q_t_nodeMany, .ref q_t_listCome, .ref q_t_listSince, .int F_listed, .ref q_t_nextCome, .ref q_t_nextSince, .int F_nexts])), (q_t_states, .inl (cI, 2, .inl A_states))] sz)) 0 0 (va_A [(q_t, .inr (12, [.ref q_t_states, .ref q_t_markMany, .ref q_t_takes, .ref q_t_puts, .ref q_t_goes, .ref q_t_closes, .int F_bytes, .ref q_t_text, .int F_position, .int F_tokenAt, .long F_token, .int F_digits, .int F_number, .int F_faultAt, .int F_readMany, .ref q_t_read, .int F_size, .ref q_t_row, .ref q_t_partner, .ref q_t_some, .ref q_t_stackCome, .ref q_t_stackSince, .ref q_t_stackLetter, .int F_stacked, .int F_come, .int F_since, .ref q_t_runs, .ref q_t_ways, .ref q_t_keptRuns, .ref q_t_keptWays, .ref q_t_rel, .int F_known, .int F_isSpent, .ref q_t_whole, .ref q_t_wholeLong, .int F_wholes, .ref q_t_nodeCome, .ref q_t_nodeSince, .ref q_t_nodeDeep, .ref q_t_nodeLong, .int F_nodes, .int F_places, .ref q_t_wholeMany, .ref q_t_blockTo, .ref q_t_nodeMany, .ref q_t_listCome, .ref q_t_listSince, .int F_listed, .ref q_t_nextCome, .ref q_t_nextSince, .int F_nexts])), (q_t_states, .inl (cI, 2, .inl A_states))] sz) := by
  refine ms_tv (cc := cX12_beginRow) (maxL := 2) (by decide) rfl (Nat.le_of_ble_eq_true rfl) ?_
  intro p e s m args below meth c Q A hx hb hml hown hts hK hP hD hS hA hRet ls hl
  have hl : lv_has ls 2 [(0, .ref q_t), (1, .int p0)] := hl
  have hown : s.vm.findClass RX12 = some m.cls := hown
  refine lv_aload_n hx hb dX12_beginRow_0 rfl (lv_at hl 0 rfl) ?_
  refine lv_iconst (v := 0) hx hb dX12_beginRow_1 (by decide) ?_
  refine va_put (D := G) (ci := 12) (v := .int (0 : Int32)) (ty := .int) (C := RX12) (T := TX12) (N := 51) hx hb hts hkX12_beginRow_X12 tyX12 tyX12_ok nmX12 hown hK hP hD hS 0 rfl rfl 23 (by decide) (hts (.fieldLink RX12 236 "NestReadersModel" "stacked" "I") hfX12_beginRow_236) (fun _ h9 => h9) rfl (by decide +kernel) rfl rfl (Nat.le_of_ble_eq_true rfl) dX12_beginRow_2 (fun H locs hP hD hS => ?_)
  have hP : va_P G vwCl [(q_t, .inr (12, [.ref q_t_states, .ref q_t_markMany, .ref q_t_takes, .ref q_t_puts, .ref q_t_goes, .ref q_t_closes, .int F_bytes, .ref q_t_text, .int F_position, .int F_tokenAt, .long F_token, .int F_digits, .int F_number, .int F_faultAt, .int F_readMany, .ref q_t_read, .int F_size, .ref q_t_row, .ref q_t_partner, .ref q_t_some, .ref q_t_stackCome, .ref q_t_stackSince, .ref q_t_stackLetter, .int (0 : Int32), .int F_come, .int F_since, .ref q_t_runs, .ref q_t_ways, .ref q_t_keptRuns, .ref q_t_keptWays, .ref q_t_rel, .int F_known, .int F_isSpent, .ref q_t_whole, .ref q_t_wholeLong, .int F_wholes, .ref q_t_nodeCome, .ref q_t_nodeSince, .ref q_t_nodeDeep, .ref q_t_nodeLong, .int F_nodes, .int F_places, .ref q_t_wholeMany, .ref q_t_blockTo, .ref q_t_nodeMany, .ref q_t_listCome, .ref q_t_listSince, .int F_listed, .ref q_t_nextCome, .ref q_t_nextSince, .int F_nexts])), (q_t_states, .inl (cI, 2, .inl A_states))] H := hP
  have hD : va_D A [(q_t, .inr (12, [.ref q_t_states, .ref q_t_markMany, .ref q_t_takes, .ref q_t_puts, .ref q_t_goes, .ref q_t_closes, .int F_bytes, .ref q_t_text, .int F_position, .int F_tokenAt, .long F_token, .int F_digits, .int F_number, .int F_faultAt, .int F_readMany, .ref q_t_read, .int F_size, .ref q_t_row, .ref q_t_partner, .ref q_t_some, .ref q_t_stackCome, .ref q_t_stackSince, .ref q_t_stackLetter, .int (0 : Int32), .int F_come, .int F_since, .ref q_t_runs, .ref q_t_ways, .ref q_t_keptRuns, .ref q_t_keptWays, .ref q_t_rel, .int F_known, .int F_isSpent, .ref q_t_whole, .ref q_t_wholeLong, .int F_wholes, .ref q_t_nodeCome, .ref q_t_nodeSince, .ref q_t_nodeDeep, .ref q_t_nodeLong, .int F_nodes, .int F_places, .ref q_t_wholeMany, .ref q_t_blockTo, .ref q_t_nodeMany, .ref q_t_listCome, .ref q_t_listSince, .int F_listed, .ref q_t_nextCome, .ref q_t_nextSince, .int F_nexts])), (q_t_states, .inl (cI, 2, .inl A_states))] := hD
  refine lv_aload_n hx hb dX12_beginRow_5 rfl (lv_at hl 0 rfl) ?_
  refine lv_iload_n hx hb dX12_beginRow_6 rfl (lv_at hl 1 rfl) ?_
  refine ms_cSi ⟨hx, hb, hml, hown, hts⟩ hK hP hD (c_X12_begun l G cI cJ cZ p0 hw) gX12_beginRow_X12_begun rfl nd_X12_begun ⟨rfl, rfl⟩ rfl ⟨Nat.le_of_ble_eq_true rfl, Nat.le_of_ble_eq_true rfl⟩ hl.1 (rest := [.ref q_t]) rfl (Nat.le_of_ble_eq_true rfl)  [] rfl rfl dX12_beginRow_7 (fun r1 hw => ?_)
  refine va_put (D := G) (ci := 12) (v := .int r1) (ty := .int) (C := RX12) (T := TX12) (N := 51) hx hb hts hkX12_beginRow_X12 tyX12 tyX12_ok nmX12 hown hK hP hD hS 0 rfl rfl 24 (by decide) (hts (.fieldLink RX12 242 "NestReadersModel" "come" "I") hfX12_beginRow_242) (fun _ h9 => h9) rfl (by decide +kernel) rfl rfl (Nat.le_of_ble_eq_true rfl) dX12_beginRow_10 (fun H locs hP hD hS => ?_)
  have hP : va_P G vwCl [(q_t, .inr (12, [.ref q_t_states, .ref q_t_markMany, .ref q_t_takes, .ref q_t_puts, .ref q_t_goes, .ref q_t_closes, .int F_bytes, .ref q_t_text, .int F_position, .int F_tokenAt, .long F_token, .int F_digits, .int F_number, .int F_faultAt, .int F_readMany, .ref q_t_read, .int F_size, .ref q_t_row, .ref q_t_partner, .ref q_t_some, .ref q_t_stackCome, .ref q_t_stackSince, .ref q_t_stackLetter, .int (0 : Int32), .int r1, .int F_since, .ref q_t_runs, .ref q_t_ways, .ref q_t_keptRuns, .ref q_t_keptWays, .ref q_t_rel, .int F_known, .int F_isSpent, .ref q_t_whole, .ref q_t_wholeLong, .int F_wholes, .ref q_t_nodeCome, .ref q_t_nodeSince, .ref q_t_nodeDeep, .ref q_t_nodeLong, .int F_nodes, .int F_places, .ref q_t_wholeMany, .ref q_t_blockTo, .ref q_t_nodeMany, .ref q_t_listCome, .ref q_t_listSince, .int F_listed, .ref q_t_nextCome, .ref q_t_nextSince, .int F_nexts])), (q_t_states, .inl (cI, 2, .inl A_states))] H := hP
  have hD : va_D A [(q_t, .inr (12, [.ref q_t_states, .ref q_t_markMany, .ref q_t_takes, .ref q_t_puts, .ref q_t_goes, .ref q_t_closes, .int F_bytes, .ref q_t_text, .int F_position, .int F_tokenAt, .long F_token, .int F_digits, .int F_number, .int F_faultAt, .int F_readMany, .ref q_t_read, .int F_size, .ref q_t_row, .ref q_t_partner, .ref q_t_some, .ref q_t_stackCome, .ref q_t_stackSince, .ref q_t_stackLetter, .int (0 : Int32), .int r1, .int F_since, .ref q_t_runs, .ref q_t_ways, .ref q_t_keptRuns, .ref q_t_keptWays, .ref q_t_rel, .int F_known, .int F_isSpent, .ref q_t_whole, .ref q_t_wholeLong, .int F_wholes, .ref q_t_nodeCome, .ref q_t_nodeSince, .ref q_t_nodeDeep, .ref q_t_nodeLong, .int F_nodes, .int F_places, .ref q_t_wholeMany, .ref q_t_blockTo, .ref q_t_nodeMany, .ref q_t_listCome, .ref q_t_listSince, .int F_listed, .ref q_t_nextCome, .ref q_t_nextSince, .int F_nexts])), (q_t_states, .inl (cI, 2, .inl A_states))] := hD
  refine lv_aload_n hx hb dX12_beginRow_13 rfl (lv_at hl 0 rfl) ?_
  refine lv_aload_n hx hb dX12_beginRow_14 rfl (lv_at hl 0 rfl) ?_
  refine lv_iload_n hx hb dX12_beginRow_15 rfl (lv_at hl 1 rfl) ?_
  refine ms_cVi ⟨hx, hb, hml, hown, hts⟩ hK hP hD (c_X12_itself l G cI cJ cZ q_t q_t_states q_t_markMany q_t_takes q_t_puts q_t_goes q_t_closes q_t_text q_t_read q_t_row q_t_partner q_t_some q_t_stackCome q_t_stackSince q_t_stackLetter q_t_runs q_t_ways q_t_keptRuns q_t_keptWays q_t_rel q_t_whole q_t_wholeLong q_t_nodeCome q_t_nodeSince q_t_nodeDeep q_t_nodeLong q_t_wholeMany q_t_blockTo q_t_nodeMany q_t_listCome q_t_listSince q_t_nextCome q_t_nextSince F_bytes F_position F_tokenAt F_token F_digits F_number F_faultAt F_readMany F_size (0 : Int32) r1 F_since F_known F_isSpent F_wholes F_nodes F_places F_listed F_nexts A_states p0 hw) gX12_beginRow_X12_itself rfl nd_X12_itself (ci := 12) rfl rfl rfl ⟨rfl, rfl⟩ rfl ⟨Nat.le_of_ble_eq_true rfl, Nat.le_of_ble_eq_true rfl⟩ hl.1 (rest := [.ref q_t]) rfl (Nat.le_of_ble_eq_true rfl)  [0, 1] rfl rfl dX12_beginRow_16 (fun r2 hw => ?_)
  refine va_put (D := G) (ci := 12) (v := .int r2) (ty := .int) (C := RX12) (T := TX12) (N := 51) hx hb hts hkX12_beginRow_X12 tyX12 tyX12_ok nmX12 hown hK hP hD hS 0 rfl rfl 25 (by decide) (hts (.fieldLink RX12 248 "NestReadersModel" "since" "I") hfX12_beginRow_248) (fun _ h9 => h9) rfl (by decide +kernel) rfl rfl (Nat.le_of_ble_eq_true rfl) dX12_beginRow_19 (fun H locs hP hD hS => ?_)
  have hP : va_P G vwCl [(q_t, .inr (12, [.ref q_t_states, .ref q_t_markMany, .ref q_t_takes, .ref q_t_puts, .ref q_t_goes, .ref q_t_closes, .int F_bytes, .ref q_t_text, .int F_position, .int F_tokenAt, .long F_token, .int F_digits, .int F_number, .int F_faultAt, .int F_readMany, .ref q_t_read, .int F_size, .ref q_t_row, .ref q_t_partner, .ref q_t_some, .ref q_t_stackCome, .ref q_t_stackSince, .ref q_t_stackLetter, .int (0 : Int32), .int r1, .int r2, .ref q_t_runs, .ref q_t_ways, .ref q_t_keptRuns, .ref q_t_keptWays, .ref q_t_rel, .int F_known, .int F_isSpent, .ref q_t_whole, .ref q_t_wholeLong, .int F_wholes, .ref q_t_nodeCome, .ref q_t_nodeSince, .ref q_t_nodeDeep, .ref q_t_nodeLong, .int F_nodes, .int F_places, .ref q_t_wholeMany, .ref q_t_blockTo, .ref q_t_nodeMany, .ref q_t_listCome, .ref q_t_listSince, .int F_listed, .ref q_t_nextCome, .ref q_t_nextSince, .int F_nexts])), (q_t_states, .inl (cI, 2, .inl A_states))] H := hP
  have hD : va_D A [(q_t, .inr (12, [.ref q_t_states, .ref q_t_markMany, .ref q_t_takes, .ref q_t_puts, .ref q_t_goes, .ref q_t_closes, .int F_bytes, .ref q_t_text, .int F_position, .int F_tokenAt, .long F_token, .int F_digits, .int F_number, .int F_faultAt, .int F_readMany, .ref q_t_read, .int F_size, .ref q_t_row, .ref q_t_partner, .ref q_t_some, .ref q_t_stackCome, .ref q_t_stackSince, .ref q_t_stackLetter, .int (0 : Int32), .int r1, .int r2, .ref q_t_runs, .ref q_t_ways, .ref q_t_keptRuns, .ref q_t_keptWays, .ref q_t_rel, .int F_known, .int F_isSpent, .ref q_t_whole, .ref q_t_wholeLong, .int F_wholes, .ref q_t_nodeCome, .ref q_t_nodeSince, .ref q_t_nodeDeep, .ref q_t_nodeLong, .int F_nodes, .int F_places, .ref q_t_wholeMany, .ref q_t_blockTo, .ref q_t_nodeMany, .ref q_t_listCome, .ref q_t_listSince, .int F_listed, .ref q_t_nextCome, .ref q_t_nextSince, .int F_nexts])), (q_t_states, .inl (cI, 2, .inl A_states))] := hD
  exact hRet ⟨(0 : Int32), r1, r2⟩ H locs _ _ hw hP hD hS dX12_beginRow_22
def wX12_goOn (p0 : Int32) (p1 : Int32) (F_stacked : Int32) (F_come : Int32) (F_since : Int32) (A_states : Nat → Int32) (A_markMany : Nat → Int32) (A_puts : Nat → Int32) (A_goes : Nat → Int32) (A_closes : Nat → Int32) (A_stackCome : Nat → Int32) (A_stackSince : Nat → Int32) (A_stackLetter : Nat → Int32) (K : Int32 → Int32 → Int32 → (Nat → Int32) → (Nat → Int32) → (Nat → Int32) → Prop) : Prop :=
  (((2 : Int32) ≤ p1 → (((4 : Int32) ≤ p1 → ((F_stacked ≤ (0 : Int32) → (wX12_closedOff p0 p1 F_come A_closes (fun r4 => (wX12_itself p0 A_states (fun r5 => K F_stacked r4 r5 A_stackCome A_stackSince A_stackLetter))))) ∧ (¬ F_stacked ≤ (0 : Int32) → (∀ x6 : Int32, x6 = (F_stacked - (1 : Int32)) → (vp_in x6 24 ∧ (wX12_block p0 (A_stackLetter x6.toNatClampNeg) F_since p1 A_markMany A_puts A_closes (fun r7 => (vp_in x6 24 ∧ (wX12_image (A_stackCome x6.toNatClampNeg) r7 (fun r8 => (vp_in x6 24 ∧ (wX12_follow (A_stackSince x6.toNatClampNeg) r7 (fun r9 => K x6 r8 r9 A_stackCome A_stackSince A_stackLetter))))))))))))) ∧ (¬ (4 : Int32) ≤ p1 → (wX12_plain p0 p1 A_goes (fun r10 => (wX12_image F_come r10 (fun r11 => (wX12_follow F_since r10 (fun r12 => K F_stacked r11 r12 A_stackCome A_stackSince A_stackLetter))))))))) ∧ (¬ (2 : Int32) ≤ p1 → (vp_in F_stacked 24 ∧ (∀ g13 : Nat → Int32, g13 = upd A_stackCome F_stacked.toNatClampNeg F_come → (vp_in F_stacked 24 ∧ (∀ g14 : Nat → Int32, g14 = upd A_stackSince F_stacked.toNatClampNeg F_since → (vp_in F_stacked 24 ∧ (∀ g15 : Nat → Int32, g15 = upd A_stackLetter F_stacked.toNatClampNeg p1 → (∀ x16 : Int32, x16 = (F_stacked + (1 : Int32)) → (wX12_opened p0 p1 F_come A_puts (fun r17 => (wX12_itself p0 A_states (fun r18 => K x16 r17 r18 g13 g14 g15)))))))))))))
abbrev rmX12_goOn : Room := { frames := 2, cells := 0, slots := 0, locals := 55 }
theorem nd_X12_goOn : yX12_goOn.cls = RX12 ∧ yX12_goOn.cls ≠ "java/lang/invoke/MethodHandle" ∧ yX12_goOn.cls ≠ "java/lang/invoke/VarHandle" ∧ (parseMethodDescriptor yX12_goOn.desc).map (fun d => d.parameters.length) = some 2 := by decide +kernel
theorem hkX12_goOn_X12 : ∀ w ∈ u_ws RX12 TX12 51, w ∈ wsX12_goOn := fun w h => List.mem_cons_of_mem _ (inlX12 w h)
theorem hfX12_goOn_236 : (Cond.fieldLink RX12 236 "NestReadersModel" "stacked" "I") ∈ wsX12_goOn := List.mem_cons_of_mem _ m31_16
theorem hfX12_goOn_242 : (Cond.fieldLink RX12 242 "NestReadersModel" "come" "I") ∈ wsX12_goOn := List.mem_cons_of_mem _ m30_7
theorem hfX12_goOn_248 : (Cond.fieldLink RX12 248 "NestReadersModel" "since" "I") ∈ wsX12_goOn := List.mem_cons_of_mem _ m31_17
theorem hfX12_goOn_49 : (Cond.fieldLink RX12 49 "NestReadersModel" "stackLetter" "[I") ∈ wsX12_goOn := List.mem_cons_of_mem _ m9_9
theorem hfX12_goOn_43 : (Cond.fieldLink RX12 43 "NestReadersModel" "stackCome" "[I") ∈ wsX12_goOn := List.mem_cons_of_mem _ m9_7
theorem hfX12_goOn_46 : (Cond.fieldLink RX12 46 "NestReadersModel" "stackSince" "[I") ∈ wsX12_goOn := List.mem_cons_of_mem _ m9_8
set_option maxHeartbeats 4000000 in
set_option maxRecDepth 100000 in
theorem c_X12_goOn (l : Launch) (G : va_G) (cI cJ cZ : ClassId) (q_t q_t_states q_t_markMany q_t_takes q_t_puts q_t_goes q_t_closes q_t_text q_t_read q_t_row q_t_partner q_t_some q_t_stackCome q_t_stackSince q_t_stackLetter q_t_runs q_t_ways q_t_keptRuns q_t_keptWays q_t_rel q_t_whole q_t_wholeLong q_t_nodeCome q_t_nodeSince q_t_nodeDeep q_t_nodeLong q_t_wholeMany q_t_blockTo q_t_nodeMany q_t_listCome q_t_listSince q_t_nextCome q_t_nextSince : Nat) (sz : Nat) (F_bytes : Int32) (F_position : Int32) (F_tokenAt : Int32) (F_token : Int64) (F_digits : Int32) (F_number : Int32) (F_faultAt : Int32) (F_readMany : Int32) (F_size : Int32) (F_stacked : Int32) (F_come : Int32) (F_since : Int32) (F_known : Int32) (F_isSpent : Int32) (F_wholes : Int32) (F_nodes : Int32) (F_places : Int32) (F_listed : Int32) (F_nexts : Int32) (A_states : Nat → Int32) (A_markMany : Nat → Int32) (A_puts : Nat → Int32) (A_goes : Nat → Int32) (A_closes : Nat → Int32) (A_stackCome : Nat → Int32) (A_stackSince : Nat → Int32) (A_stackLetter : Nat → Int32) (p0 : Int32) (p1 : Int32) {K : Int32 → Int32 → Int32 → (Nat → Int32) → (Nat → Int32) → (Nat → Int32) → Prop} (hw : wX12_goOn p0 p1 F_stacked F_come F_since A_states A_markMany A_puts A_goes A_closes A_stackCome A_stackSince A_stackLetter K) : Met l yX12_goOn wsX12_goOn rmX12_goOn (ms_Pz G (ms_T cI cJ cZ) [(q_t, .inr (12, [.ref q_t_states, .ref q_t_markMany, .ref q_t_takes, .ref q_t_puts, .ref q_t_goes, .ref q_t_closes, .int F_bytes, .ref q_t_text, .int F_position, .int F_tokenAt, .long F_token, .int F_digits, .int F_number, .int F_faultAt, .int F_readMany, .ref q_t_read, .int F_size, .ref q_t_row, .ref q_t_partner, .ref q_t_some, .ref q_t_stackCome, .ref q_t_stackSince, .ref q_t_stackLetter, .int F_stacked, .int F_come, .int F_since, .ref q_t_runs, .ref q_t_ways, .ref q_t_keptRuns, .ref q_t_keptWays, .ref q_t_rel, .int F_known, .int F_isSpent, .ref q_t_whole, .ref q_t_wholeLong, .int F_wholes, .ref q_t_nodeCome, .ref q_t_nodeSince, .ref q_t_nodeDeep, .ref q_t_nodeLong, .int F_nodes, .int F_places, .ref q_t_wholeMany, .ref q_t_blockTo, .ref q_t_nodeMany, .ref q_t_listCome, .ref q_t_listSince, .int F_listed, .ref q_t_nextCome, .ref q_t_nextSince, .int F_nexts])), (q_t_states, .inl (cI, 2, .inl A_states)), (q_t_markMany, .inl (cI, 2, .inl A_markMany)), (q_t_puts, .inl (cI, 24, .inl A_puts)), (q_t_goes, .inl (cI, 12, .inl A_goes)), (q_t_closes, .inl (cI, 36, .inl A_closes)), (q_t_stackCome, .inl (cI, 24, .inl A_stackCome)), (q_t_stackSince, .inl (cI, 24, .inl A_stackSince)), (q_t_stackLetter, .inl (cI, 24, .inl A_stackLetter))] sz [.ref q_t, .int p0, .int p1]) (ms_Wv G (ms_T cI cJ cZ) (fun (u : Int32 × Int32 × Int32 × (Nat → Int32) × (Nat → Int32) × (Nat → Int32)) => K u.1 u.2.1 u.2.2.1 u.2.2.2.1 u.2.2.2.2.1 u.2.2.2.2.2) (fun u : Int32 × Int32 × Int32 × (Nat → Int32) × (Nat → Int32) × (Nat → Int32) => [(q_t, .inr (12, [.ref q_t_states, .ref q_t_markMany, .ref q_t_takes, .ref q_t_puts, .ref q_t_goes, .ref q_t_closes, .int F_bytes, .ref q_t_text, .int F_position, .int F_tokenAt, .long F_token, .int F_digits, .int F_number, .int F_faultAt, .int F_readMany, .ref q_t_read, .int F_size, .ref q_t_row, .ref q_t_partner, .ref q_t_some, .ref q_t_stackCome, .ref q_t_stackSince, .ref q_t_stackLetter, .int u.1, .int u.2.1, .int u.2.2.1, .ref q_t_runs, .ref q_t_ways, .ref q_t_keptRuns, .ref q_t_keptWays, .ref q_t_rel, .int F_known, .int F_isSpent, .ref q_t_whole, .ref q_t_wholeLong, .int F_wholes, .ref q_t_nodeCome, .ref q_t_nodeSince, .ref q_t_nodeDeep, .ref q_t_nodeLong, .int F_nodes, .int F_places, .ref q_t_wholeMany, .ref q_t_blockTo, .ref q_t_nodeMany, .ref q_t_listCome, .ref q_t_listSince, .int F_listed, .ref q_t_nextCome, .ref q_t_nextSince, .int F_nexts])), (q_t_states, .inl (cI, 2, .inl A_states)), (q_t_markMany, .inl (cI, 2, .inl A_markMany)), (q_t_puts, .inl (cI, 24, .inl A_puts)), (q_t_goes, .inl (cI, 12, .inl A_goes)), (q_t_closes, .inl (cI, 36, .inl A_closes)), (q_t_stackCome, .inl (cI, 24, .inl u.2.2.2.1)), (q_t_stackSince, .inl (cI, 24, .inl u.2.2.2.2.1)), (q_t_stackLetter, .inl (cI, 24, .inl u.2.2.2.2.2))]) (va_A [(q_t, .inr (12, [.ref q_t_states, .ref q_t_markMany, .ref q_t_takes, .ref q_t_puts, .ref q_t_goes, .ref q_t_closes, .int F_bytes, .ref q_t_text, .int F_position, .int F_tokenAt, .long F_token, .int F_digits, .int F_number, .int F_faultAt, .int F_readMany, .ref q_t_read, .int F_size, .ref q_t_row, .ref q_t_partner, .ref q_t_some, .ref q_t_stackCome, .ref q_t_stackSince, .ref q_t_stackLetter, .int F_stacked, .int F_come, .int F_since, .ref q_t_runs, .ref q_t_ways, .ref q_t_keptRuns, .ref q_t_keptWays, .ref q_t_rel, .int F_known, .int F_isSpent, .ref q_t_whole, .ref q_t_wholeLong, .int F_wholes, .ref q_t_nodeCome, .ref q_t_nodeSince, .ref q_t_nodeDeep, .ref q_t_nodeLong, .int F_nodes, .int F_places, .ref q_t_wholeMany, .ref q_t_blockTo, .ref q_t_nodeMany, .ref q_t_listCome, .ref q_t_listSince, .int F_listed, .ref q_t_nextCome, .ref q_t_nextSince, .int F_nexts])), (q_t_states, .inl (cI, 2, .inl A_states)), (q_t_markMany, .inl (cI, 2, .inl A_markMany)), (q_t_puts, .inl (cI, 24, .inl A_puts)), (q_t_goes, .inl (cI, 12, .inl A_goes)), (q_t_closes, .inl (cI, 36, .inl A_closes)), (q_t_stackCome, .inl (cI, 24, .inl A_stackCome)), (q_t_stackSince, .inl (cI, 24, .inl A_stackSince)), (q_t_stackLetter, .inl (cI, 24, .inl A_stackLetter))] sz)) 0 0 (va_A [(q_t, .inr (12, [.ref q_t_states, .ref q_t_markMany, .ref q_t_takes, .ref q_t_puts, .ref q_t_goes, .ref q_t_closes, .int F_bytes, .ref q_t_text, .int F_position, .int F_tokenAt, .long F_token, .int F_digits, .int F_number, .int F_faultAt, .int F_readMany, .ref q_t_read, .int F_size, .ref q_t_row, .ref q_t_partner, .ref q_t_some, .ref q_t_stackCome, .ref q_t_stackSince, .ref q_t_stackLetter, .int F_stacked, .int F_come, .int F_since, .ref q_t_runs, .ref q_t_ways, .ref q_t_keptRuns, .ref q_t_keptWays, .ref q_t_rel, .int F_known, .int F_isSpent, .ref q_t_whole, .ref q_t_wholeLong, .int F_wholes, .ref q_t_nodeCome, .ref q_t_nodeSince, .ref q_t_nodeDeep, .ref q_t_nodeLong, .int F_nodes, .int F_places, .ref q_t_wholeMany, .ref q_t_blockTo, .ref q_t_nodeMany, .ref q_t_listCome, .ref q_t_listSince, .int F_listed, .ref q_t_nextCome, .ref q_t_nextSince, .int F_nexts])), (q_t_states, .inl (cI, 2, .inl A_states)), (q_t_markMany, .inl (cI, 2, .inl A_markMany)), (q_t_puts, .inl (cI, 24, .inl A_puts)), (q_t_goes, .inl (cI, 12, .inl A_goes)), (q_t_closes, .inl (cI, 36, .inl A_closes)), (q_t_stackCome, .inl (cI, 24, .inl A_stackCome)), (q_t_stackSince, .inl (cI, 24, .inl A_stackSince)), (q_t_stackLetter, .inl (cI, 24, .inl A_stackLetter))] sz) := by
  refine ms_tv (cc := cX12_goOn) (maxL := 4) (by decide) rfl (Nat.le_of_ble_eq_true rfl) ?_
  intro p e s m args below meth c Q A hx hb hml hown hts hK hP hD hS hA hRet ls hl
  have hl : lv_has ls 4 [(0, .ref q_t), (1, .int p0), (2, .int p1)] := hl
  have hown : s.vm.findClass RX12 = some m.cls := hown
  refine lv_iload_n hx hb dX12_goOn_0 rfl (lv_at hl 2 rfl) ?_
  refine lv_iconst (v := 2) hx hb dX12_goOn_1 (by decide) ?_
  refine lv_icmp_ge (tgt := 77) hx hb dX12_goOn_2 (by decide) (fun c1 => ?_) (fun c1 => ?_)
  · have hw := hw.1 c1
    refine lv_iload_n hx hb dX12_goOn_77 rfl (lv_at hl 2 rfl) ?_
    refine lv_iconst (v := 4) hx hb dX12_goOn_78 (by decide) ?_
    refine lv_icmp_ge (tgt := 116) hx hb dX12_goOn_79 (by decide) (fun c2 => ?_) (fun c2 => ?_)
    · have hw := hw.1 c2
      refine lv_aload_n hx hb dX12_goOn_116 rfl (lv_at hl 0 rfl) ?_
      refine va_get (D := G) (ci := 12) (v := .int F_stacked) (C := RX12) (T := TX12) (N := 51) hx hb hts hkX12_goOn_X12 hown hK hP 0 rfl rfl 23 (by decide) (hts (.fieldLink RX12 236 "NestReadersModel" "stacked" "I") hfX12_goOn_236) (fun _ h9 => h9) rfl dX12_goOn_117 ?_
      refine lv_if_le (tgt := 190) hx hb dX12_goOn_120 (by decide) (fun c3 => ?_) (fun c3 => ?_)
      · have hw := hw.1 c3
        refine lv_aload_n hx hb dX12_goOn_190 rfl (lv_at hl 0 rfl) ?_
        refine lv_aload_n hx hb dX12_goOn_191 rfl (lv_at hl 0 rfl) ?_
        refine lv_iload_n hx hb dX12_goOn_192 rfl (lv_at hl 1 rfl) ?_
        refine lv_iload_n hx hb dX12_goOn_193 rfl (lv_at hl 2 rfl) ?_
        refine lv_aload_n hx hb dX12_goOn_194 rfl (lv_at hl 0 rfl) ?_
        refine va_get (D := G) (ci := 12) (v := .int F_come) (C := RX12) (T := TX12) (N := 51) hx hb hts hkX12_goOn_X12 hown hK hP 0 rfl rfl 24 (by decide) (hts (.fieldLink RX12 242 "NestReadersModel" "come" "I") hfX12_goOn_242) (fun _ h9 => h9) rfl dX12_goOn_195 ?_
        refine ms_cVi ⟨hx, hb, hml, hown, hts⟩ hK hP hD (c_X12_closedOff l G cI cJ cZ q_t q_t_states q_t_markMany q_t_takes q_t_puts q_t_goes q_t_closes q_t_text q_t_read q_t_row q_t_partner q_t_some q_t_stackCome q_t_stackSince q_t_stackLetter q_t_runs q_t_ways q_t_keptRuns q_t_keptWays q_t_rel q_t_whole q_t_wholeLong q_t_nodeCome q_t_nodeSince q_t_nodeDeep q_t_nodeLong q_t_wholeMany q_t_blockTo q_t_nodeMany q_t_listCome q_t_listSince q_t_nextCome q_t_nextSince F_bytes F_position F_tokenAt F_token F_digits F_number F_faultAt F_readMany F_size F_stacked F_come F_since F_known F_isSpent F_wholes F_nodes F_places F_listed F_nexts A_closes p0 p1 F_come hw) gX12_goOn_X12_closedOff rfl nd_X12_closedOff (ci := 12) rfl rfl rfl ⟨rfl, rfl⟩ rfl ⟨Nat.le_of_ble_eq_true rfl, Nat.le_of_ble_eq_true rfl⟩ hl.1 (rest := [.ref q_t]) rfl (Nat.le_of_ble_eq_true rfl)  [0, 5] rfl rfl dX12_goOn_198 (fun r4 hw => ?_)
        refine va_put (D := G) (ci := 12) (v := .int r4) (ty := .int) (C := RX12) (T := TX12) (N := 51) hx hb hts hkX12_goOn_X12 tyX12 tyX12_ok nmX12 hown hK hP hD hS 0 rfl rfl 24 (by decide) (hts (.fieldLink RX12 242 "NestReadersModel" "come" "I") hfX12_goOn_242) (fun _ h9 => h9) rfl (by decide +kernel) rfl rfl (Nat.le_of_ble_eq_true rfl) dX12_goOn_201 (fun H locs hP hD hS => ?_)
        have hP : va_P G vwCl [(q_t, .inr (12, [.ref q_t_states, .ref q_t_markMany, .ref q_t_takes, .ref q_t_puts, .ref q_t_goes, .ref q_t_closes, .int F_bytes, .ref q_t_text, .int F_position, .int F_tokenAt, .long F_token, .int F_digits, .int F_number, .int F_faultAt, .int F_readMany, .ref q_t_read, .int F_size, .ref q_t_row, .ref q_t_partner, .ref q_t_some, .ref q_t_stackCome, .ref q_t_stackSince, .ref q_t_stackLetter, .int F_stacked, .int r4, .int F_since, .ref q_t_runs, .ref q_t_ways, .ref q_t_keptRuns, .ref q_t_keptWays, .ref q_t_rel, .int F_known, .int F_isSpent, .ref q_t_whole, .ref q_t_wholeLong, .int F_wholes, .ref q_t_nodeCome, .ref q_t_nodeSince, .ref q_t_nodeDeep, .ref q_t_nodeLong, .int F_nodes, .int F_places, .ref q_t_wholeMany, .ref q_t_blockTo, .ref q_t_nodeMany, .ref q_t_listCome, .ref q_t_listSince, .int F_listed, .ref q_t_nextCome, .ref q_t_nextSince, .int F_nexts])), (q_t_states, .inl (cI, 2, .inl A_states)), (q_t_markMany, .inl (cI, 2, .inl A_markMany)), (q_t_puts, .inl (cI, 24, .inl A_puts)), (q_t_goes, .inl (cI, 12, .inl A_goes)), (q_t_closes, .inl (cI, 36, .inl A_closes)), (q_t_stackCome, .inl (cI, 24, .inl A_stackCome)), (q_t_stackSince, .inl (cI, 24, .inl A_stackSince)), (q_t_stackLetter, .inl (cI, 24, .inl A_stackLetter))] H := hP
        have hD : va_D A [(q_t, .inr (12, [.ref q_t_states, .ref q_t_markMany, .ref q_t_takes, .ref q_t_puts, .ref q_t_goes, .ref q_t_closes, .int F_bytes, .ref q_t_text, .int F_position, .int F_tokenAt, .long F_token, .int F_digits, .int F_number, .int F_faultAt, .int F_readMany, .ref q_t_read, .int F_size, .ref q_t_row, .ref q_t_partner, .ref q_t_some, .ref q_t_stackCome, .ref q_t_stackSince, .ref q_t_stackLetter, .int F_stacked, .int r4, .int F_since, .ref q_t_runs, .ref q_t_ways, .ref q_t_keptRuns, .ref q_t_keptWays, .ref q_t_rel, .int F_known, .int F_isSpent, .ref q_t_whole, .ref q_t_wholeLong, .int F_wholes, .ref q_t_nodeCome, .ref q_t_nodeSince, .ref q_t_nodeDeep, .ref q_t_nodeLong, .int F_nodes, .int F_places, .ref q_t_wholeMany, .ref q_t_blockTo, .ref q_t_nodeMany, .ref q_t_listCome, .ref q_t_listSince, .int F_listed, .ref q_t_nextCome, .ref q_t_nextSince, .int F_nexts])), (q_t_states, .inl (cI, 2, .inl A_states)), (q_t_markMany, .inl (cI, 2, .inl A_markMany)), (q_t_puts, .inl (cI, 24, .inl A_puts)), (q_t_goes, .inl (cI, 12, .inl A_goes)), (q_t_closes, .inl (cI, 36, .inl A_closes)), (q_t_stackCome, .inl (cI, 24, .inl A_stackCome)), (q_t_stackSince, .inl (cI, 24, .inl A_stackSince)), (q_t_stackLetter, .inl (cI, 24, .inl A_stackLetter))] := hD
        refine lv_aload_n hx hb dX12_goOn_204 rfl (lv_at hl 0 rfl) ?_
        refine lv_aload_n hx hb dX12_goOn_205 rfl (lv_at hl 0 rfl) ?_
        refine lv_iload_n hx hb dX12_goOn_206 rfl (lv_at hl 1 rfl) ?_
        refine ms_cVi ⟨hx, hb, hml, hown, hts⟩ hK hP hD (c_X12_itself l G cI cJ cZ q_t q_t_states q_t_markMany q_t_takes q_t_puts q_t_goes q_t_closes q_t_text q_t_read q_t_row q_t_partner q_t_some q_t_stackCome q_t_stackSince q_t_stackLetter q_t_runs q_t_ways q_t_keptRuns q_t_keptWays q_t_rel q_t_whole q_t_wholeLong q_t_nodeCome q_t_nodeSince q_t_nodeDeep q_t_nodeLong q_t_wholeMany q_t_blockTo q_t_nodeMany q_t_listCome q_t_listSince q_t_nextCome q_t_nextSince F_bytes F_position F_tokenAt F_token F_digits F_number F_faultAt F_readMany F_size F_stacked r4 F_since F_known F_isSpent F_wholes F_nodes F_places F_listed F_nexts A_states p0 hw) gX12_goOn_X12_itself rfl nd_X12_itself (ci := 12) rfl rfl rfl ⟨rfl, rfl⟩ rfl ⟨Nat.le_of_ble_eq_true rfl, Nat.le_of_ble_eq_true rfl⟩ hl.1 (rest := [.ref q_t]) rfl (Nat.le_of_ble_eq_true rfl)  [0, 1] rfl rfl dX12_goOn_207 (fun r5 hw => ?_)
        refine va_put (D := G) (ci := 12) (v := .int r5) (ty := .int) (C := RX12) (T := TX12) (N := 51) hx hb hts hkX12_goOn_X12 tyX12 tyX12_ok nmX12 hown hK hP hD hS 0 rfl rfl 25 (by decide) (hts (.fieldLink RX12 248 "NestReadersModel" "since" "I") hfX12_goOn_248) (fun _ h9 => h9) rfl (by decide +kernel) rfl rfl (Nat.le_of_ble_eq_true rfl) dX12_goOn_210 (fun H locs hP hD hS => ?_)
        have hP : va_P G vwCl [(q_t, .inr (12, [.ref q_t_states, .ref q_t_markMany, .ref q_t_takes, .ref q_t_puts, .ref q_t_goes, .ref q_t_closes, .int F_bytes, .ref q_t_text, .int F_position, .int F_tokenAt, .long F_token, .int F_digits, .int F_number, .int F_faultAt, .int F_readMany, .ref q_t_read, .int F_size, .ref q_t_row, .ref q_t_partner, .ref q_t_some, .ref q_t_stackCome, .ref q_t_stackSince, .ref q_t_stackLetter, .int F_stacked, .int r4, .int r5, .ref q_t_runs, .ref q_t_ways, .ref q_t_keptRuns, .ref q_t_keptWays, .ref q_t_rel, .int F_known, .int F_isSpent, .ref q_t_whole, .ref q_t_wholeLong, .int F_wholes, .ref q_t_nodeCome, .ref q_t_nodeSince, .ref q_t_nodeDeep, .ref q_t_nodeLong, .int F_nodes, .int F_places, .ref q_t_wholeMany, .ref q_t_blockTo, .ref q_t_nodeMany, .ref q_t_listCome, .ref q_t_listSince, .int F_listed, .ref q_t_nextCome, .ref q_t_nextSince, .int F_nexts])), (q_t_states, .inl (cI, 2, .inl A_states)), (q_t_markMany, .inl (cI, 2, .inl A_markMany)), (q_t_puts, .inl (cI, 24, .inl A_puts)), (q_t_goes, .inl (cI, 12, .inl A_goes)), (q_t_closes, .inl (cI, 36, .inl A_closes)), (q_t_stackCome, .inl (cI, 24, .inl A_stackCome)), (q_t_stackSince, .inl (cI, 24, .inl A_stackSince)), (q_t_stackLetter, .inl (cI, 24, .inl A_stackLetter))] H := hP
        have hD : va_D A [(q_t, .inr (12, [.ref q_t_states, .ref q_t_markMany, .ref q_t_takes, .ref q_t_puts, .ref q_t_goes, .ref q_t_closes, .int F_bytes, .ref q_t_text, .int F_position, .int F_tokenAt, .long F_token, .int F_digits, .int F_number, .int F_faultAt, .int F_readMany, .ref q_t_read, .int F_size, .ref q_t_row, .ref q_t_partner, .ref q_t_some, .ref q_t_stackCome, .ref q_t_stackSince, .ref q_t_stackLetter, .int F_stacked, .int r4, .int r5, .ref q_t_runs, .ref q_t_ways, .ref q_t_keptRuns, .ref q_t_keptWays, .ref q_t_rel, .int F_known, .int F_isSpent, .ref q_t_whole, .ref q_t_wholeLong, .int F_wholes, .ref q_t_nodeCome, .ref q_t_nodeSince, .ref q_t_nodeDeep, .ref q_t_nodeLong, .int F_nodes, .int F_places, .ref q_t_wholeMany, .ref q_t_blockTo, .ref q_t_nodeMany, .ref q_t_listCome, .ref q_t_listSince, .int F_listed, .ref q_t_nextCome, .ref q_t_nextSince, .int F_nexts])), (q_t_states, .inl (cI, 2, .inl A_states)), (q_t_markMany, .inl (cI, 2, .inl A_markMany)), (q_t_puts, .inl (cI, 24, .inl A_puts)), (q_t_goes, .inl (cI, 12, .inl A_goes)), (q_t_closes, .inl (cI, 36, .inl A_closes)), (q_t_stackCome, .inl (cI, 24, .inl A_stackCome)), (q_t_stackSince, .inl (cI, 24, .inl A_stackSince)), (q_t_stackLetter, .inl (cI, 24, .inl A_stackLetter))] := hD
        exact hRet ⟨F_stacked, r4, r5, A_stackCome, A_stackSince, A_stackLetter⟩ H locs _ _ hw hP hD hS dX12_goOn_213
      · have hw := hw.2 c3
        refine lv_aload_n hx hb dX12_goOn_123 rfl (lv_at hl 0 rfl) ?_
        refine lv_dup hx hb dX12_goOn_124 rfl ?_
        refine va_get (D := G) (ci := 12) (v := .int F_stacked) (C := RX12) (T := TX12) (N := 51) hx hb hts hkX12_goOn_X12 hown hK hP 0 rfl rfl 23 (by decide) (hts (.fieldLink RX12 236 "NestReadersModel" "stacked" "I") hfX12_goOn_236) (fun _ h9 => h9) rfl dX12_goOn_125 ?_
        refine lv_iconst (v := 1) hx hb dX12_goOn_128 (by decide) ?_
        refine lv_isub hx hb dX12_goOn_129 ?_
        refine lv_topi (fun x6 ex6 => ?_)
        have hw := hw x6 ex6
        refine va_put (D := G) (ci := 12) (v := .int x6) (ty := .int) (C := RX12) (T := TX12) (N := 51) hx hb hts hkX12_goOn_X12 tyX12 tyX12_ok nmX12 hown hK hP hD hS 0 rfl rfl 23 (by decide) (hts (.fieldLink RX12 236 "NestReadersModel" "stacked" "I") hfX12_goOn_236) (fun _ h9 => h9) rfl (by decide +kernel) rfl rfl (Nat.le_of_ble_eq_true rfl) dX12_goOn_130 (fun H locs hP hD hS => ?_)
        have hP : va_P G vwCl [(q_t, .inr (12, [.ref q_t_states, .ref q_t_markMany, .ref q_t_takes, .ref q_t_puts, .ref q_t_goes, .ref q_t_closes, .int F_bytes, .ref q_t_text, .int F_position, .int F_tokenAt, .long F_token, .int F_digits, .int F_number, .int F_faultAt, .int F_readMany, .ref q_t_read, .int F_size, .ref q_t_row, .ref q_t_partner, .ref q_t_some, .ref q_t_stackCome, .ref q_t_stackSince, .ref q_t_stackLetter, .int x6, .int F_come, .int F_since, .ref q_t_runs, .ref q_t_ways, .ref q_t_keptRuns, .ref q_t_keptWays, .ref q_t_rel, .int F_known, .int F_isSpent, .ref q_t_whole, .ref q_t_wholeLong, .int F_wholes, .ref q_t_nodeCome, .ref q_t_nodeSince, .ref q_t_nodeDeep, .ref q_t_nodeLong, .int F_nodes, .int F_places, .ref q_t_wholeMany, .ref q_t_blockTo, .ref q_t_nodeMany, .ref q_t_listCome, .ref q_t_listSince, .int F_listed, .ref q_t_nextCome, .ref q_t_nextSince, .int F_nexts])), (q_t_states, .inl (cI, 2, .inl A_states)), (q_t_markMany, .inl (cI, 2, .inl A_markMany)), (q_t_puts, .inl (cI, 24, .inl A_puts)), (q_t_goes, .inl (cI, 12, .inl A_goes)), (q_t_closes, .inl (cI, 36, .inl A_closes)), (q_t_stackCome, .inl (cI, 24, .inl A_stackCome)), (q_t_stackSince, .inl (cI, 24, .inl A_stackSince)), (q_t_stackLetter, .inl (cI, 24, .inl A_stackLetter))] H := hP
        have hD : va_D A [(q_t, .inr (12, [.ref q_t_states, .ref q_t_markMany, .ref q_t_takes, .ref q_t_puts, .ref q_t_goes, .ref q_t_closes, .int F_bytes, .ref q_t_text, .int F_position, .int F_tokenAt, .long F_token, .int F_digits, .int F_number, .int F_faultAt, .int F_readMany, .ref q_t_read, .int F_size, .ref q_t_row, .ref q_t_partner, .ref q_t_some, .ref q_t_stackCome, .ref q_t_stackSince, .ref q_t_stackLetter, .int x6, .int F_come, .int F_since, .ref q_t_runs, .ref q_t_ways, .ref q_t_keptRuns, .ref q_t_keptWays, .ref q_t_rel, .int F_known, .int F_isSpent, .ref q_t_whole, .ref q_t_wholeLong, .int F_wholes, .ref q_t_nodeCome, .ref q_t_nodeSince, .ref q_t_nodeDeep, .ref q_t_nodeLong, .int F_nodes, .int F_places, .ref q_t_wholeMany, .ref q_t_blockTo, .ref q_t_nodeMany, .ref q_t_listCome, .ref q_t_listSince, .int F_listed, .ref q_t_nextCome, .ref q_t_nextSince, .int F_nexts])), (q_t_states, .inl (cI, 2, .inl A_states)), (q_t_markMany, .inl (cI, 2, .inl A_markMany)), (q_t_puts, .inl (cI, 24, .inl A_puts)), (q_t_goes, .inl (cI, 12, .inl A_goes)), (q_t_closes, .inl (cI, 36, .inl A_closes)), (q_t_stackCome, .inl (cI, 24, .inl A_stackCome)), (q_t_stackSince, .inl (cI, 24, .inl A_stackSince)), (q_t_stackLetter, .inl (cI, 24, .inl A_stackLetter))] := hD
        refine lv_aload_n hx hb dX12_goOn_133 rfl (lv_at hl 0 rfl) ?_
        refine lv_iload_n hx hb dX12_goOn_134 rfl (lv_at hl 1 rfl) ?_
        refine lv_aload_n hx hb dX12_goOn_135 rfl (lv_at hl 0 rfl) ?_
        refine va_get (D := G) (ci := 12) (v := .ref q_t_stackLetter) (C := RX12) (T := TX12) (N := 51) hx hb hts hkX12_goOn_X12 hown hK hP 0 rfl rfl 22 (by decide) (hts (.fieldLink RX12 49 "NestReadersModel" "stackLetter" "[I") hfX12_goOn_49) (fun _ h9 => h9) rfl dX12_goOn_136 ?_
        refine lv_aload_n hx hb dX12_goOn_139 rfl (lv_at hl 0 rfl) ?_
        refine va_get (D := G) (ci := 12) (v := .int x6) (C := RX12) (T := TX12) (N := 51) hx hb hts hkX12_goOn_X12 hown hK hP 0 rfl rfl 23 (by decide) (hts (.fieldLink RX12 236 "NestReadersModel" "stacked" "I") hfX12_goOn_236) (fun _ h9 => h9) rfl dX12_goOn_140 ?_
        refine va_iald (D := G) hx hb hK hP 8 0 rfl rfl hw.1 dX12_goOn_143 ?_
        have hw := hw.2
        refine lv_aload_n hx hb dX12_goOn_144 rfl (lv_at hl 0 rfl) ?_
        refine va_get (D := G) (ci := 12) (v := .int F_since) (C := RX12) (T := TX12) (N := 51) hx hb hts hkX12_goOn_X12 hown hK hP 0 rfl rfl 25 (by decide) (hts (.fieldLink RX12 248 "NestReadersModel" "since" "I") hfX12_goOn_248) (fun _ h9 => h9) rfl dX12_goOn_145 ?_
        refine lv_iload_n hx hb dX12_goOn_148 rfl (lv_at hl 2 rfl) ?_
        refine ms_cVi ⟨hx, hb, hml, hown, hts⟩ hK hP hD (c_X12_block l G cI cJ cZ q_t q_t_states q_t_markMany q_t_takes q_t_puts q_t_goes q_t_closes q_t_text q_t_read q_t_row q_t_partner q_t_some q_t_stackCome q_t_stackSince q_t_stackLetter q_t_runs q_t_ways q_t_keptRuns q_t_keptWays q_t_rel q_t_whole q_t_wholeLong q_t_nodeCome q_t_nodeSince q_t_nodeDeep q_t_nodeLong q_t_wholeMany q_t_blockTo q_t_nodeMany q_t_listCome q_t_listSince q_t_nextCome q_t_nextSince F_bytes F_position F_tokenAt F_token F_digits F_number F_faultAt F_readMany F_size x6 F_come F_since F_known F_isSpent F_wholes F_nodes F_places F_listed F_nexts A_markMany A_puts A_closes p0 (A_stackLetter x6.toNatClampNeg) F_since p1 hw) gX12_goOn_X12_block rfl nd_X12_block (ci := 12) rfl rfl rfl ⟨rfl, rfl⟩ rfl ⟨Nat.le_of_ble_eq_true rfl, Nat.le_of_ble_eq_true rfl⟩ hl.1 (rest := []) rfl (Nat.le_of_ble_eq_true rfl)  [0, 2, 3, 5] rfl rfl dX12_goOn_149 (fun r7 hw => ?_)
        refine lv_istore_n (lv' := [(3, .int r7), (0, .ref q_t), (1, .int p0), (2, .int p1)]) hx hb dX12_goOn_152 rfl hl (by decide) rfl (fun ls hl => ?_)
        refine lv_aload_n hx hb dX12_goOn_153 rfl (lv_at hl 1 rfl) ?_
        refine lv_aload_n hx hb dX12_goOn_154 rfl (lv_at hl 1 rfl) ?_
        refine va_get (D := G) (ci := 12) (v := .ref q_t_stackCome) (C := RX12) (T := TX12) (N := 51) hx hb hts hkX12_goOn_X12 hown hK hP 0 rfl rfl 20 (by decide) (hts (.fieldLink RX12 43 "NestReadersModel" "stackCome" "[I") hfX12_goOn_43) (fun _ h9 => h9) rfl dX12_goOn_155 ?_
        refine lv_aload_n hx hb dX12_goOn_158 rfl (lv_at hl 1 rfl) ?_
        refine va_get (D := G) (ci := 12) (v := .int x6) (C := RX12) (T := TX12) (N := 51) hx hb hts hkX12_goOn_X12 hown hK hP 0 rfl rfl 23 (by decide) (hts (.fieldLink RX12 236 "NestReadersModel" "stacked" "I") hfX12_goOn_236) (fun _ h9 => h9) rfl dX12_goOn_159 ?_
        refine va_iald (D := G) hx hb hK hP 6 0 rfl rfl hw.1 dX12_goOn_162 ?_
        have hw := hw.2
        refine lv_iload_n hx hb dX12_goOn_163 rfl (lv_at hl 0 rfl) ?_
        refine ms_cSi ⟨hx, hb, hml, hown, hts⟩ hK hP hD (c_X12_image l G cI cJ cZ (A_stackCome x6.toNatClampNeg) r7 hw) gX12_goOn_X12_image rfl nd_X12_image ⟨rfl, rfl⟩ rfl ⟨Nat.le_of_ble_eq_true rfl, Nat.le_of_ble_eq_true rfl⟩ hl.1 (rest := [.ref q_t]) rfl (Nat.le_of_ble_eq_true rfl)  [] rfl rfl dX12_goOn_164 (fun r8 hw => ?_)
        refine va_put (D := G) (ci := 12) (v := .int r8) (ty := .int) (C := RX12) (T := TX12) (N := 51) hx hb hts hkX12_goOn_X12 tyX12 tyX12_ok nmX12 hown hK hP hD hS 0 rfl rfl 24 (by decide) (hts (.fieldLink RX12 242 "NestReadersModel" "come" "I") hfX12_goOn_242) (fun _ h9 => h9) rfl (by decide +kernel) rfl rfl (Nat.le_of_ble_eq_true rfl) dX12_goOn_167 (fun H locs hP hD hS => ?_)
        have hP : va_P G vwCl [(q_t, .inr (12, [.ref q_t_states, .ref q_t_markMany, .ref q_t_takes, .ref q_t_puts, .ref q_t_goes, .ref q_t_closes, .int F_bytes, .ref q_t_text, .int F_position, .int F_tokenAt, .long F_token, .int F_digits, .int F_number, .int F_faultAt, .int F_readMany, .ref q_t_read, .int F_size, .ref q_t_row, .ref q_t_partner, .ref q_t_some, .ref q_t_stackCome, .ref q_t_stackSince, .ref q_t_stackLetter, .int x6, .int r8, .int F_since, .ref q_t_runs, .ref q_t_ways, .ref q_t_keptRuns, .ref q_t_keptWays, .ref q_t_rel, .int F_known, .int F_isSpent, .ref q_t_whole, .ref q_t_wholeLong, .int F_wholes, .ref q_t_nodeCome, .ref q_t_nodeSince, .ref q_t_nodeDeep, .ref q_t_nodeLong, .int F_nodes, .int F_places, .ref q_t_wholeMany, .ref q_t_blockTo, .ref q_t_nodeMany, .ref q_t_listCome, .ref q_t_listSince, .int F_listed, .ref q_t_nextCome, .ref q_t_nextSince, .int F_nexts])), (q_t_states, .inl (cI, 2, .inl A_states)), (q_t_markMany, .inl (cI, 2, .inl A_markMany)), (q_t_puts, .inl (cI, 24, .inl A_puts)), (q_t_goes, .inl (cI, 12, .inl A_goes)), (q_t_closes, .inl (cI, 36, .inl A_closes)), (q_t_stackCome, .inl (cI, 24, .inl A_stackCome)), (q_t_stackSince, .inl (cI, 24, .inl A_stackSince)), (q_t_stackLetter, .inl (cI, 24, .inl A_stackLetter))] H := hP
        have hD : va_D A [(q_t, .inr (12, [.ref q_t_states, .ref q_t_markMany, .ref q_t_takes, .ref q_t_puts, .ref q_t_goes, .ref q_t_closes, .int F_bytes, .ref q_t_text, .int F_position, .int F_tokenAt, .long F_token, .int F_digits, .int F_number, .int F_faultAt, .int F_readMany, .ref q_t_read, .int F_size, .ref q_t_row, .ref q_t_partner, .ref q_t_some, .ref q_t_stackCome, .ref q_t_stackSince, .ref q_t_stackLetter, .int x6, .int r8, .int F_since, .ref q_t_runs, .ref q_t_ways, .ref q_t_keptRuns, .ref q_t_keptWays, .ref q_t_rel, .int F_known, .int F_isSpent, .ref q_t_whole, .ref q_t_wholeLong, .int F_wholes, .ref q_t_nodeCome, .ref q_t_nodeSince, .ref q_t_nodeDeep, .ref q_t_nodeLong, .int F_nodes, .int F_places, .ref q_t_wholeMany, .ref q_t_blockTo, .ref q_t_nodeMany, .ref q_t_listCome, .ref q_t_listSince, .int F_listed, .ref q_t_nextCome, .ref q_t_nextSince, .int F_nexts])), (q_t_states, .inl (cI, 2, .inl A_states)), (q_t_markMany, .inl (cI, 2, .inl A_markMany)), (q_t_puts, .inl (cI, 24, .inl A_puts)), (q_t_goes, .inl (cI, 12, .inl A_goes)), (q_t_closes, .inl (cI, 36, .inl A_closes)), (q_t_stackCome, .inl (cI, 24, .inl A_stackCome)), (q_t_stackSince, .inl (cI, 24, .inl A_stackSince)), (q_t_stackLetter, .inl (cI, 24, .inl A_stackLetter))] := hD
        refine lv_aload_n hx hb dX12_goOn_170 rfl (lv_at hl 1 rfl) ?_
        refine lv_aload_n hx hb dX12_goOn_171 rfl (lv_at hl 1 rfl) ?_
        refine va_get (D := G) (ci := 12) (v := .ref q_t_stackSince) (C := RX12) (T := TX12) (N := 51) hx hb hts hkX12_goOn_X12 hown hK hP 0 rfl rfl 21 (by decide) (hts (.fieldLink RX12 46 "NestReadersModel" "stackSince" "[I") hfX12_goOn_46) (fun _ h9 => h9) rfl dX12_goOn_172 ?_
        refine lv_aload_n hx hb dX12_goOn_175 rfl (lv_at hl 1 rfl) ?_
        refine va_get (D := G) (ci := 12) (v := .int x6) (C := RX12) (T := TX12) (N := 51) hx hb hts hkX12_goOn_X12 hown hK hP 0 rfl rfl 23 (by decide) (hts (.fieldLink RX12 236 "NestReadersModel" "stacked" "I") hfX12_goOn_236) (fun _ h9 => h9) rfl dX12_goOn_176 ?_
        refine va_iald (D := G) hx hb hK hP 7 0 rfl rfl hw.1 dX12_goOn_179 ?_
        have hw := hw.2
        refine lv_iload_n hx hb dX12_goOn_180 rfl (lv_at hl 0 rfl) ?_
        refine ms_cSi ⟨hx, hb, hml, hown, hts⟩ hK hP hD (c_X12_follow l G cI cJ cZ (A_stackSince x6.toNatClampNeg) r7 hw) gX12_goOn_X12_follow rfl nd_X12_follow ⟨rfl, rfl⟩ rfl ⟨Nat.le_of_ble_eq_true rfl, Nat.le_of_ble_eq_true rfl⟩ hl.1 (rest := [.ref q_t]) rfl (Nat.le_of_ble_eq_true rfl)  [] rfl rfl dX12_goOn_181 (fun r9 hw => ?_)
        refine va_put (D := G) (ci := 12) (v := .int r9) (ty := .int) (C := RX12) (T := TX12) (N := 51) hx hb hts hkX12_goOn_X12 tyX12 tyX12_ok nmX12 hown hK hP hD hS 0 rfl rfl 25 (by decide) (hts (.fieldLink RX12 248 "NestReadersModel" "since" "I") hfX12_goOn_248) (fun _ h9 => h9) rfl (by decide +kernel) rfl rfl (Nat.le_of_ble_eq_true rfl) dX12_goOn_184 (fun H locs hP hD hS => ?_)
        have hP : va_P G vwCl [(q_t, .inr (12, [.ref q_t_states, .ref q_t_markMany, .ref q_t_takes, .ref q_t_puts, .ref q_t_goes, .ref q_t_closes, .int F_bytes, .ref q_t_text, .int F_position, .int F_tokenAt, .long F_token, .int F_digits, .int F_number, .int F_faultAt, .int F_readMany, .ref q_t_read, .int F_size, .ref q_t_row, .ref q_t_partner, .ref q_t_some, .ref q_t_stackCome, .ref q_t_stackSince, .ref q_t_stackLetter, .int x6, .int r8, .int r9, .ref q_t_runs, .ref q_t_ways, .ref q_t_keptRuns, .ref q_t_keptWays, .ref q_t_rel, .int F_known, .int F_isSpent, .ref q_t_whole, .ref q_t_wholeLong, .int F_wholes, .ref q_t_nodeCome, .ref q_t_nodeSince, .ref q_t_nodeDeep, .ref q_t_nodeLong, .int F_nodes, .int F_places, .ref q_t_wholeMany, .ref q_t_blockTo, .ref q_t_nodeMany, .ref q_t_listCome, .ref q_t_listSince, .int F_listed, .ref q_t_nextCome, .ref q_t_nextSince, .int F_nexts])), (q_t_states, .inl (cI, 2, .inl A_states)), (q_t_markMany, .inl (cI, 2, .inl A_markMany)), (q_t_puts, .inl (cI, 24, .inl A_puts)), (q_t_goes, .inl (cI, 12, .inl A_goes)), (q_t_closes, .inl (cI, 36, .inl A_closes)), (q_t_stackCome, .inl (cI, 24, .inl A_stackCome)), (q_t_stackSince, .inl (cI, 24, .inl A_stackSince)), (q_t_stackLetter, .inl (cI, 24, .inl A_stackLetter))] H := hP
        have hD : va_D A [(q_t, .inr (12, [.ref q_t_states, .ref q_t_markMany, .ref q_t_takes, .ref q_t_puts, .ref q_t_goes, .ref q_t_closes, .int F_bytes, .ref q_t_text, .int F_position, .int F_tokenAt, .long F_token, .int F_digits, .int F_number, .int F_faultAt, .int F_readMany, .ref q_t_read, .int F_size, .ref q_t_row, .ref q_t_partner, .ref q_t_some, .ref q_t_stackCome, .ref q_t_stackSince, .ref q_t_stackLetter, .int x6, .int r8, .int r9, .ref q_t_runs, .ref q_t_ways, .ref q_t_keptRuns, .ref q_t_keptWays, .ref q_t_rel, .int F_known, .int F_isSpent, .ref q_t_whole, .ref q_t_wholeLong, .int F_wholes, .ref q_t_nodeCome, .ref q_t_nodeSince, .ref q_t_nodeDeep, .ref q_t_nodeLong, .int F_nodes, .int F_places, .ref q_t_wholeMany, .ref q_t_blockTo, .ref q_t_nodeMany, .ref q_t_listCome, .ref q_t_listSince, .int F_listed, .ref q_t_nextCome, .ref q_t_nextSince, .int F_nexts])), (q_t_states, .inl (cI, 2, .inl A_states)), (q_t_markMany, .inl (cI, 2, .inl A_markMany)), (q_t_puts, .inl (cI, 24, .inl A_puts)), (q_t_goes, .inl (cI, 12, .inl A_goes)), (q_t_closes, .inl (cI, 36, .inl A_closes)), (q_t_stackCome, .inl (cI, 24, .inl A_stackCome)), (q_t_stackSince, .inl (cI, 24, .inl A_stackSince)), (q_t_stackLetter, .inl (cI, 24, .inl A_stackLetter))] := hD
        refine lv_goto (tgt := 213) hx hb dX12_goOn_187 (by decide) ?_
        exact hRet ⟨x6, r8, r9, A_stackCome, A_stackSince, A_stackLetter⟩ H locs _ _ hw hP hD hS dX12_goOn_213
    · have hw := hw.2 c2
      refine lv_aload_n hx hb dX12_goOn_82 rfl (lv_at hl 0 rfl) ?_
      refine lv_iload_n hx hb dX12_goOn_83 rfl (lv_at hl 1 rfl) ?_
      refine lv_iload_n hx hb dX12_goOn_84 rfl (lv_at hl 2 rfl) ?_
      refine ms_cVi ⟨hx, hb, hml, hown, hts⟩ hK hP hD (c_X12_plain l G cI cJ cZ q_t q_t_states q_t_markMany q_t_takes q_t_puts q_t_goes q_t_closes q_t_text q_t_read q_t_row q_t_partner q_t_some q_t_stackCome q_t_stackSince q_t_stackLetter q_t_runs q_t_ways q_t_keptRuns q_t_keptWays q_t_rel q_t_whole q_t_wholeLong q_t_nodeCome q_t_nodeSince q_t_nodeDeep q_t_nodeLong q_t_wholeMany q_t_blockTo q_t_nodeMany q_t_listCome q_t_listSince q_t_nextCome q_t_nextSince F_bytes F_position F_tokenAt F_token F_digits F_number F_faultAt F_readMany F_size F_stacked F_come F_since F_known F_isSpent F_wholes F_nodes F_places F_listed F_nexts A_goes p0 p1 hw) gX12_goOn_X12_plain rfl nd_X12_plain (ci := 12) rfl rfl rfl ⟨rfl, rfl⟩ rfl ⟨Nat.le_of_ble_eq_true rfl, Nat.le_of_ble_eq_true rfl⟩ hl.1 (rest := []) rfl (Nat.le_of_ble_eq_true rfl)  [0, 4] rfl rfl dX12_goOn_85 (fun r10 hw => ?_)
      refine lv_istore_n (lv' := [(3, .int r10), (0, .ref q_t), (1, .int p0), (2, .int p1)]) hx hb dX12_goOn_88 rfl hl (by decide) rfl (fun ls hl => ?_)
      refine lv_aload_n hx hb dX12_goOn_89 rfl (lv_at hl 1 rfl) ?_
      refine lv_aload_n hx hb dX12_goOn_90 rfl (lv_at hl 1 rfl) ?_
      refine va_get (D := G) (ci := 12) (v := .int F_come) (C := RX12) (T := TX12) (N := 51) hx hb hts hkX12_goOn_X12 hown hK hP 0 rfl rfl 24 (by decide) (hts (.fieldLink RX12 242 "NestReadersModel" "come" "I") hfX12_goOn_242) (fun _ h9 => h9) rfl dX12_goOn_91 ?_
      refine lv_iload_n hx hb dX12_goOn_94 rfl (lv_at hl 0 rfl) ?_
      refine ms_cSi ⟨hx, hb, hml, hown, hts⟩ hK hP hD (c_X12_image l G cI cJ cZ F_come r10 hw) gX12_goOn_X12_image rfl nd_X12_image ⟨rfl, rfl⟩ rfl ⟨Nat.le_of_ble_eq_true rfl, Nat.le_of_ble_eq_true rfl⟩ hl.1 (rest := [.ref q_t]) rfl (Nat.le_of_ble_eq_true rfl)  [] rfl rfl dX12_goOn_95 (fun r11 hw => ?_)
      refine va_put (D := G) (ci := 12) (v := .int r11) (ty := .int) (C := RX12) (T := TX12) (N := 51) hx hb hts hkX12_goOn_X12 tyX12 tyX12_ok nmX12 hown hK hP hD hS 0 rfl rfl 24 (by decide) (hts (.fieldLink RX12 242 "NestReadersModel" "come" "I") hfX12_goOn_242) (fun _ h9 => h9) rfl (by decide +kernel) rfl rfl (Nat.le_of_ble_eq_true rfl) dX12_goOn_98 (fun H locs hP hD hS => ?_)
      have hP : va_P G vwCl [(q_t, .inr (12, [.ref q_t_states, .ref q_t_markMany, .ref q_t_takes, .ref q_t_puts, .ref q_t_goes, .ref q_t_closes, .int F_bytes, .ref q_t_text, .int F_position, .int F_tokenAt, .long F_token, .int F_digits, .int F_number, .int F_faultAt, .int F_readMany, .ref q_t_read, .int F_size, .ref q_t_row, .ref q_t_partner, .ref q_t_some, .ref q_t_stackCome, .ref q_t_stackSince, .ref q_t_stackLetter, .int F_stacked, .int r11, .int F_since, .ref q_t_runs, .ref q_t_ways, .ref q_t_keptRuns, .ref q_t_keptWays, .ref q_t_rel, .int F_known, .int F_isSpent, .ref q_t_whole, .ref q_t_wholeLong, .int F_wholes, .ref q_t_nodeCome, .ref q_t_nodeSince, .ref q_t_nodeDeep, .ref q_t_nodeLong, .int F_nodes, .int F_places, .ref q_t_wholeMany, .ref q_t_blockTo, .ref q_t_nodeMany, .ref q_t_listCome, .ref q_t_listSince, .int F_listed, .ref q_t_nextCome, .ref q_t_nextSince, .int F_nexts])), (q_t_states, .inl (cI, 2, .inl A_states)), (q_t_markMany, .inl (cI, 2, .inl A_markMany)), (q_t_puts, .inl (cI, 24, .inl A_puts)), (q_t_goes, .inl (cI, 12, .inl A_goes)), (q_t_closes, .inl (cI, 36, .inl A_closes)), (q_t_stackCome, .inl (cI, 24, .inl A_stackCome)), (q_t_stackSince, .inl (cI, 24, .inl A_stackSince)), (q_t_stackLetter, .inl (cI, 24, .inl A_stackLetter))] H := hP
      have hD : va_D A [(q_t, .inr (12, [.ref q_t_states, .ref q_t_markMany, .ref q_t_takes, .ref q_t_puts, .ref q_t_goes, .ref q_t_closes, .int F_bytes, .ref q_t_text, .int F_position, .int F_tokenAt, .long F_token, .int F_digits, .int F_number, .int F_faultAt, .int F_readMany, .ref q_t_read, .int F_size, .ref q_t_row, .ref q_t_partner, .ref q_t_some, .ref q_t_stackCome, .ref q_t_stackSince, .ref q_t_stackLetter, .int F_stacked, .int r11, .int F_since, .ref q_t_runs, .ref q_t_ways, .ref q_t_keptRuns, .ref q_t_keptWays, .ref q_t_rel, .int F_known, .int F_isSpent, .ref q_t_whole, .ref q_t_wholeLong, .int F_wholes, .ref q_t_nodeCome, .ref q_t_nodeSince, .ref q_t_nodeDeep, .ref q_t_nodeLong, .int F_nodes, .int F_places, .ref q_t_wholeMany, .ref q_t_blockTo, .ref q_t_nodeMany, .ref q_t_listCome, .ref q_t_listSince, .int F_listed, .ref q_t_nextCome, .ref q_t_nextSince, .int F_nexts])), (q_t_states, .inl (cI, 2, .inl A_states)), (q_t_markMany, .inl (cI, 2, .inl A_markMany)), (q_t_puts, .inl (cI, 24, .inl A_puts)), (q_t_goes, .inl (cI, 12, .inl A_goes)), (q_t_closes, .inl (cI, 36, .inl A_closes)), (q_t_stackCome, .inl (cI, 24, .inl A_stackCome)), (q_t_stackSince, .inl (cI, 24, .inl A_stackSince)), (q_t_stackLetter, .inl (cI, 24, .inl A_stackLetter))] := hD
      refine lv_aload_n hx hb dX12_goOn_101 rfl (lv_at hl 1 rfl) ?_
      refine lv_aload_n hx hb dX12_goOn_102 rfl (lv_at hl 1 rfl) ?_
      refine va_get (D := G) (ci := 12) (v := .int F_since) (C := RX12) (T := TX12) (N := 51) hx hb hts hkX12_goOn_X12 hown hK hP 0 rfl rfl 25 (by decide) (hts (.fieldLink RX12 248 "NestReadersModel" "since" "I") hfX12_goOn_248) (fun _ h9 => h9) rfl dX12_goOn_103 ?_
      refine lv_iload_n hx hb dX12_goOn_106 rfl (lv_at hl 0 rfl) ?_
      refine ms_cSi ⟨hx, hb, hml, hown, hts⟩ hK hP hD (c_X12_follow l G cI cJ cZ F_since r10 hw) gX12_goOn_X12_follow rfl nd_X12_follow ⟨rfl, rfl⟩ rfl ⟨Nat.le_of_ble_eq_true rfl, Nat.le_of_ble_eq_true rfl⟩ hl.1 (rest := [.ref q_t]) rfl (Nat.le_of_ble_eq_true rfl)  [] rfl rfl dX12_goOn_107 (fun r12 hw => ?_)
      refine va_put (D := G) (ci := 12) (v := .int r12) (ty := .int) (C := RX12) (T := TX12) (N := 51) hx hb hts hkX12_goOn_X12 tyX12 tyX12_ok nmX12 hown hK hP hD hS 0 rfl rfl 25 (by decide) (hts (.fieldLink RX12 248 "NestReadersModel" "since" "I") hfX12_goOn_248) (fun _ h9 => h9) rfl (by decide +kernel) rfl rfl (Nat.le_of_ble_eq_true rfl) dX12_goOn_110 (fun H locs hP hD hS => ?_)
      have hP : va_P G vwCl [(q_t, .inr (12, [.ref q_t_states, .ref q_t_markMany, .ref q_t_takes, .ref q_t_puts, .ref q_t_goes, .ref q_t_closes, .int F_bytes, .ref q_t_text, .int F_position, .int F_tokenAt, .long F_token, .int F_digits, .int F_number, .int F_faultAt, .int F_readMany, .ref q_t_read, .int F_size, .ref q_t_row, .ref q_t_partner, .ref q_t_some, .ref q_t_stackCome, .ref q_t_stackSince, .ref q_t_stackLetter, .int F_stacked, .int r11, .int r12, .ref q_t_runs, .ref q_t_ways, .ref q_t_keptRuns, .ref q_t_keptWays, .ref q_t_rel, .int F_known, .int F_isSpent, .ref q_t_whole, .ref q_t_wholeLong, .int F_wholes, .ref q_t_nodeCome, .ref q_t_nodeSince, .ref q_t_nodeDeep, .ref q_t_nodeLong, .int F_nodes, .int F_places, .ref q_t_wholeMany, .ref q_t_blockTo, .ref q_t_nodeMany, .ref q_t_listCome, .ref q_t_listSince, .int F_listed, .ref q_t_nextCome, .ref q_t_nextSince, .int F_nexts])), (q_t_states, .inl (cI, 2, .inl A_states)), (q_t_markMany, .inl (cI, 2, .inl A_markMany)), (q_t_puts, .inl (cI, 24, .inl A_puts)), (q_t_goes, .inl (cI, 12, .inl A_goes)), (q_t_closes, .inl (cI, 36, .inl A_closes)), (q_t_stackCome, .inl (cI, 24, .inl A_stackCome)), (q_t_stackSince, .inl (cI, 24, .inl A_stackSince)), (q_t_stackLetter, .inl (cI, 24, .inl A_stackLetter))] H := hP
      have hD : va_D A [(q_t, .inr (12, [.ref q_t_states, .ref q_t_markMany, .ref q_t_takes, .ref q_t_puts, .ref q_t_goes, .ref q_t_closes, .int F_bytes, .ref q_t_text, .int F_position, .int F_tokenAt, .long F_token, .int F_digits, .int F_number, .int F_faultAt, .int F_readMany, .ref q_t_read, .int F_size, .ref q_t_row, .ref q_t_partner, .ref q_t_some, .ref q_t_stackCome, .ref q_t_stackSince, .ref q_t_stackLetter, .int F_stacked, .int r11, .int r12, .ref q_t_runs, .ref q_t_ways, .ref q_t_keptRuns, .ref q_t_keptWays, .ref q_t_rel, .int F_known, .int F_isSpent, .ref q_t_whole, .ref q_t_wholeLong, .int F_wholes, .ref q_t_nodeCome, .ref q_t_nodeSince, .ref q_t_nodeDeep, .ref q_t_nodeLong, .int F_nodes, .int F_places, .ref q_t_wholeMany, .ref q_t_blockTo, .ref q_t_nodeMany, .ref q_t_listCome, .ref q_t_listSince, .int F_listed, .ref q_t_nextCome, .ref q_t_nextSince, .int F_nexts])), (q_t_states, .inl (cI, 2, .inl A_states)), (q_t_markMany, .inl (cI, 2, .inl A_markMany)), (q_t_puts, .inl (cI, 24, .inl A_puts)), (q_t_goes, .inl (cI, 12, .inl A_goes)), (q_t_closes, .inl (cI, 36, .inl A_closes)), (q_t_stackCome, .inl (cI, 24, .inl A_stackCome)), (q_t_stackSince, .inl (cI, 24, .inl A_stackSince)), (q_t_stackLetter, .inl (cI, 24, .inl A_stackLetter))] := hD
      refine lv_goto (tgt := 213) hx hb dX12_goOn_113 (by decide) ?_
      exact hRet ⟨F_stacked, r11, r12, A_stackCome, A_stackSince, A_stackLetter⟩ H locs _ _ hw hP hD hS dX12_goOn_213
  · have hw := hw.2 c1
    refine lv_aload_n hx hb dX12_goOn_5 rfl (lv_at hl 0 rfl) ?_
    refine va_get (D := G) (ci := 12) (v := .ref q_t_stackCome) (C := RX12) (T := TX12) (N := 51) hx hb hts hkX12_goOn_X12 hown hK hP 0 rfl rfl 20 (by decide) (hts (.fieldLink RX12 43 "NestReadersModel" "stackCome" "[I") hfX12_goOn_43) (fun _ h9 => h9) rfl dX12_goOn_6 ?_
    refine lv_aload_n hx hb dX12_goOn_9 rfl (lv_at hl 0 rfl) ?_
    refine va_get (D := G) (ci := 12) (v := .int F_stacked) (C := RX12) (T := TX12) (N := 51) hx hb hts hkX12_goOn_X12 hown hK hP 0 rfl rfl 23 (by decide) (hts (.fieldLink RX12 236 "NestReadersModel" "stacked" "I") hfX12_goOn_236) (fun _ h9 => h9) rfl dX12_goOn_10 ?_
    refine lv_aload_n hx hb dX12_goOn_13 rfl (lv_at hl 0 rfl) ?_
    refine va_get (D := G) (ci := 12) (v := .int F_come) (C := RX12) (T := TX12) (N := 51) hx hb hts hkX12_goOn_X12 hown hK hP 0 rfl rfl 24 (by decide) (hts (.fieldLink RX12 242 "NestReadersModel" "come" "I") hfX12_goOn_242) (fun _ h9 => h9) rfl dX12_goOn_14 ?_
    refine ms_iast hx hb hK hP hD hS 6 0 rfl rfl hw.1 dX12_goOn_17 (fun g13 H locs eg13 hP hD hS => ?_)
    have hw := hw.2 g13 eg13
    have hP : va_P G vwCl [(q_t, .inr (12, [.ref q_t_states, .ref q_t_markMany, .ref q_t_takes, .ref q_t_puts, .ref q_t_goes, .ref q_t_closes, .int F_bytes, .ref q_t_text, .int F_position, .int F_tokenAt, .long F_token, .int F_digits, .int F_number, .int F_faultAt, .int F_readMany, .ref q_t_read, .int F_size, .ref q_t_row, .ref q_t_partner, .ref q_t_some, .ref q_t_stackCome, .ref q_t_stackSince, .ref q_t_stackLetter, .int F_stacked, .int F_come, .int F_since, .ref q_t_runs, .ref q_t_ways, .ref q_t_keptRuns, .ref q_t_keptWays, .ref q_t_rel, .int F_known, .int F_isSpent, .ref q_t_whole, .ref q_t_wholeLong, .int F_wholes, .ref q_t_nodeCome, .ref q_t_nodeSince, .ref q_t_nodeDeep, .ref q_t_nodeLong, .int F_nodes, .int F_places, .ref q_t_wholeMany, .ref q_t_blockTo, .ref q_t_nodeMany, .ref q_t_listCome, .ref q_t_listSince, .int F_listed, .ref q_t_nextCome, .ref q_t_nextSince, .int F_nexts])), (q_t_states, .inl (cI, 2, .inl A_states)), (q_t_markMany, .inl (cI, 2, .inl A_markMany)), (q_t_puts, .inl (cI, 24, .inl A_puts)), (q_t_goes, .inl (cI, 12, .inl A_goes)), (q_t_closes, .inl (cI, 36, .inl A_closes)), (q_t_stackCome, .inl (cI, 24, .inl g13)), (q_t_stackSince, .inl (cI, 24, .inl A_stackSince)), (q_t_stackLetter, .inl (cI, 24, .inl A_stackLetter))] H := hP
    have hD : va_D A [(q_t, .inr (12, [.ref q_t_states, .ref q_t_markMany, .ref q_t_takes, .ref q_t_puts, .ref q_t_goes, .ref q_t_closes, .int F_bytes, .ref q_t_text, .int F_position, .int F_tokenAt, .long F_token, .int F_digits, .int F_number, .int F_faultAt, .int F_readMany, .ref q_t_read, .int F_size, .ref q_t_row, .ref q_t_partner, .ref q_t_some, .ref q_t_stackCome, .ref q_t_stackSince, .ref q_t_stackLetter, .int F_stacked, .int F_come, .int F_since, .ref q_t_runs, .ref q_t_ways, .ref q_t_keptRuns, .ref q_t_keptWays, .ref q_t_rel, .int F_known, .int F_isSpent, .ref q_t_whole, .ref q_t_wholeLong, .int F_wholes, .ref q_t_nodeCome, .ref q_t_nodeSince, .ref q_t_nodeDeep, .ref q_t_nodeLong, .int F_nodes, .int F_places, .ref q_t_wholeMany, .ref q_t_blockTo, .ref q_t_nodeMany, .ref q_t_listCome, .ref q_t_listSince, .int F_listed, .ref q_t_nextCome, .ref q_t_nextSince, .int F_nexts])), (q_t_states, .inl (cI, 2, .inl A_states)), (q_t_markMany, .inl (cI, 2, .inl A_markMany)), (q_t_puts, .inl (cI, 24, .inl A_puts)), (q_t_goes, .inl (cI, 12, .inl A_goes)), (q_t_closes, .inl (cI, 36, .inl A_closes)), (q_t_stackCome, .inl (cI, 24, .inl g13)), (q_t_stackSince, .inl (cI, 24, .inl A_stackSince)), (q_t_stackLetter, .inl (cI, 24, .inl A_stackLetter))] := hD
    refine lv_aload_n hx hb dX12_goOn_18 rfl (lv_at hl 0 rfl) ?_
    refine va_get (D := G) (ci := 12) (v := .ref q_t_stackSince) (C := RX12) (T := TX12) (N := 51) hx hb hts hkX12_goOn_X12 hown hK hP 0 rfl rfl 21 (by decide) (hts (.fieldLink RX12 46 "NestReadersModel" "stackSince" "[I") hfX12_goOn_46) (fun _ h9 => h9) rfl dX12_goOn_19 ?_
    refine lv_aload_n hx hb dX12_goOn_22 rfl (lv_at hl 0 rfl) ?_
    refine va_get (D := G) (ci := 12) (v := .int F_stacked) (C := RX12) (T := TX12) (N := 51) hx hb hts hkX12_goOn_X12 hown hK hP 0 rfl rfl 23 (by decide) (hts (.fieldLink RX12 236 "NestReadersModel" "stacked" "I") hfX12_goOn_236) (fun _ h9 => h9) rfl dX12_goOn_23 ?_
    refine lv_aload_n hx hb dX12_goOn_26 rfl (lv_at hl 0 rfl) ?_
    refine va_get (D := G) (ci := 12) (v := .int F_since) (C := RX12) (T := TX12) (N := 51) hx hb hts hkX12_goOn_X12 hown hK hP 0 rfl rfl 25 (by decide) (hts (.fieldLink RX12 248 "NestReadersModel" "since" "I") hfX12_goOn_248) (fun _ h9 => h9) rfl dX12_goOn_27 ?_
    refine ms_iast hx hb hK hP hD hS 7 0 rfl rfl hw.1 dX12_goOn_30 (fun g14 H locs eg14 hP hD hS => ?_)
    have hw := hw.2 g14 eg14
    have hP : va_P G vwCl [(q_t, .inr (12, [.ref q_t_states, .ref q_t_markMany, .ref q_t_takes, .ref q_t_puts, .ref q_t_goes, .ref q_t_closes, .int F_bytes, .ref q_t_text, .int F_position, .int F_tokenAt, .long F_token, .int F_digits, .int F_number, .int F_faultAt, .int F_readMany, .ref q_t_read, .int F_size, .ref q_t_row, .ref q_t_partner, .ref q_t_some, .ref q_t_stackCome, .ref q_t_stackSince, .ref q_t_stackLetter, .int F_stacked, .int F_come, .int F_since, .ref q_t_runs, .ref q_t_ways, .ref q_t_keptRuns, .ref q_t_keptWays, .ref q_t_rel, .int F_known, .int F_isSpent, .ref q_t_whole, .ref q_t_wholeLong, .int F_wholes, .ref q_t_nodeCome, .ref q_t_nodeSince, .ref q_t_nodeDeep, .ref q_t_nodeLong, .int F_nodes, .int F_places, .ref q_t_wholeMany, .ref q_t_blockTo, .ref q_t_nodeMany, .ref q_t_listCome, .ref q_t_listSince, .int F_listed, .ref q_t_nextCome, .ref q_t_nextSince, .int F_nexts])), (q_t_states, .inl (cI, 2, .inl A_states)), (q_t_markMany, .inl (cI, 2, .inl A_markMany)), (q_t_puts, .inl (cI, 24, .inl A_puts)), (q_t_goes, .inl (cI, 12, .inl A_goes)), (q_t_closes, .inl (cI, 36, .inl A_closes)), (q_t_stackCome, .inl (cI, 24, .inl g13)), (q_t_stackSince, .inl (cI, 24, .inl g14)), (q_t_stackLetter, .inl (cI, 24, .inl A_stackLetter))] H := hP
    have hD : va_D A [(q_t, .inr (12, [.ref q_t_states, .ref q_t_markMany, .ref q_t_takes, .ref q_t_puts, .ref q_t_goes, .ref q_t_closes, .int F_bytes, .ref q_t_text, .int F_position, .int F_tokenAt, .long F_token, .int F_digits, .int F_number, .int F_faultAt, .int F_readMany, .ref q_t_read, .int F_size, .ref q_t_row, .ref q_t_partner, .ref q_t_some, .ref q_t_stackCome, .ref q_t_stackSince, .ref q_t_stackLetter, .int F_stacked, .int F_come, .int F_since, .ref q_t_runs, .ref q_t_ways, .ref q_t_keptRuns, .ref q_t_keptWays, .ref q_t_rel, .int F_known, .int F_isSpent, .ref q_t_whole, .ref q_t_wholeLong, .int F_wholes, .ref q_t_nodeCome, .ref q_t_nodeSince, .ref q_t_nodeDeep, .ref q_t_nodeLong, .int F_nodes, .int F_places, .ref q_t_wholeMany, .ref q_t_blockTo, .ref q_t_nodeMany, .ref q_t_listCome, .ref q_t_listSince, .int F_listed, .ref q_t_nextCome, .ref q_t_nextSince, .int F_nexts])), (q_t_states, .inl (cI, 2, .inl A_states)), (q_t_markMany, .inl (cI, 2, .inl A_markMany)), (q_t_puts, .inl (cI, 24, .inl A_puts)), (q_t_goes, .inl (cI, 12, .inl A_goes)), (q_t_closes, .inl (cI, 36, .inl A_closes)), (q_t_stackCome, .inl (cI, 24, .inl g13)), (q_t_stackSince, .inl (cI, 24, .inl g14)), (q_t_stackLetter, .inl (cI, 24, .inl A_stackLetter))] := hD
    refine lv_aload_n hx hb dX12_goOn_31 rfl (lv_at hl 0 rfl) ?_
    refine va_get (D := G) (ci := 12) (v := .ref q_t_stackLetter) (C := RX12) (T := TX12) (N := 51) hx hb hts hkX12_goOn_X12 hown hK hP 0 rfl rfl 22 (by decide) (hts (.fieldLink RX12 49 "NestReadersModel" "stackLetter" "[I") hfX12_goOn_49) (fun _ h9 => h9) rfl dX12_goOn_32 ?_
    refine lv_aload_n hx hb dX12_goOn_35 rfl (lv_at hl 0 rfl) ?_
    refine va_get (D := G) (ci := 12) (v := .int F_stacked) (C := RX12) (T := TX12) (N := 51) hx hb hts hkX12_goOn_X12 hown hK hP 0 rfl rfl 23 (by decide) (hts (.fieldLink RX12 236 "NestReadersModel" "stacked" "I") hfX12_goOn_236) (fun _ h9 => h9) rfl dX12_goOn_36 ?_
    refine lv_iload_n hx hb dX12_goOn_39 rfl (lv_at hl 2 rfl) ?_
    refine ms_iast hx hb hK hP hD hS 8 0 rfl rfl hw.1 dX12_goOn_40 (fun g15 H locs eg15 hP hD hS => ?_)
    have hw := hw.2 g15 eg15
    have hP : va_P G vwCl [(q_t, .inr (12, [.ref q_t_states, .ref q_t_markMany, .ref q_t_takes, .ref q_t_puts, .ref q_t_goes, .ref q_t_closes, .int F_bytes, .ref q_t_text, .int F_position, .int F_tokenAt, .long F_token, .int F_digits, .int F_number, .int F_faultAt, .int F_readMany, .ref q_t_read, .int F_size, .ref q_t_row, .ref q_t_partner, .ref q_t_some, .ref q_t_stackCome, .ref q_t_stackSince, .ref q_t_stackLetter, .int F_stacked, .int F_come, .int F_since, .ref q_t_runs, .ref q_t_ways, .ref q_t_keptRuns, .ref q_t_keptWays, .ref q_t_rel, .int F_known, .int F_isSpent, .ref q_t_whole, .ref q_t_wholeLong, .int F_wholes, .ref q_t_nodeCome, .ref q_t_nodeSince, .ref q_t_nodeDeep, .ref q_t_nodeLong, .int F_nodes, .int F_places, .ref q_t_wholeMany, .ref q_t_blockTo, .ref q_t_nodeMany, .ref q_t_listCome, .ref q_t_listSince, .int F_listed, .ref q_t_nextCome, .ref q_t_nextSince, .int F_nexts])), (q_t_states, .inl (cI, 2, .inl A_states)), (q_t_markMany, .inl (cI, 2, .inl A_markMany)), (q_t_puts, .inl (cI, 24, .inl A_puts)), (q_t_goes, .inl (cI, 12, .inl A_goes)), (q_t_closes, .inl (cI, 36, .inl A_closes)), (q_t_stackCome, .inl (cI, 24, .inl g13)), (q_t_stackSince, .inl (cI, 24, .inl g14)), (q_t_stackLetter, .inl (cI, 24, .inl g15))] H := hP
    have hD : va_D A [(q_t, .inr (12, [.ref q_t_states, .ref q_t_markMany, .ref q_t_takes, .ref q_t_puts, .ref q_t_goes, .ref q_t_closes, .int F_bytes, .ref q_t_text, .int F_position, .int F_tokenAt, .long F_token, .int F_digits, .int F_number, .int F_faultAt, .int F_readMany, .ref q_t_read, .int F_size, .ref q_t_row, .ref q_t_partner, .ref q_t_some, .ref q_t_stackCome, .ref q_t_stackSince, .ref q_t_stackLetter, .int F_stacked, .int F_come, .int F_since, .ref q_t_runs, .ref q_t_ways, .ref q_t_keptRuns, .ref q_t_keptWays, .ref q_t_rel, .int F_known, .int F_isSpent, .ref q_t_whole, .ref q_t_wholeLong, .int F_wholes, .ref q_t_nodeCome, .ref q_t_nodeSince, .ref q_t_nodeDeep, .ref q_t_nodeLong, .int F_nodes, .int F_places, .ref q_t_wholeMany, .ref q_t_blockTo, .ref q_t_nodeMany, .ref q_t_listCome, .ref q_t_listSince, .int F_listed, .ref q_t_nextCome, .ref q_t_nextSince, .int F_nexts])), (q_t_states, .inl (cI, 2, .inl A_states)), (q_t_markMany, .inl (cI, 2, .inl A_markMany)), (q_t_puts, .inl (cI, 24, .inl A_puts)), (q_t_goes, .inl (cI, 12, .inl A_goes)), (q_t_closes, .inl (cI, 36, .inl A_closes)), (q_t_stackCome, .inl (cI, 24, .inl g13)), (q_t_stackSince, .inl (cI, 24, .inl g14)), (q_t_stackLetter, .inl (cI, 24, .inl g15))] := hD
    refine lv_aload_n hx hb dX12_goOn_41 rfl (lv_at hl 0 rfl) ?_
    refine lv_dup hx hb dX12_goOn_42 rfl ?_
    refine va_get (D := G) (ci := 12) (v := .int F_stacked) (C := RX12) (T := TX12) (N := 51) hx hb hts hkX12_goOn_X12 hown hK hP 0 rfl rfl 23 (by decide) (hts (.fieldLink RX12 236 "NestReadersModel" "stacked" "I") hfX12_goOn_236) (fun _ h9 => h9) rfl dX12_goOn_43 ?_
    refine lv_iconst (v := 1) hx hb dX12_goOn_46 (by decide) ?_
    refine lv_iadd hx hb dX12_goOn_47 ?_
    refine lv_topi (fun x16 ex16 => ?_)
    have hw := hw x16 ex16
    refine va_put (D := G) (ci := 12) (v := .int x16) (ty := .int) (C := RX12) (T := TX12) (N := 51) hx hb hts hkX12_goOn_X12 tyX12 tyX12_ok nmX12 hown hK hP hD hS 0 rfl rfl 23 (by decide) (hts (.fieldLink RX12 236 "NestReadersModel" "stacked" "I") hfX12_goOn_236) (fun _ h9 => h9) rfl (by decide +kernel) rfl rfl (Nat.le_of_ble_eq_true rfl) dX12_goOn_48 (fun H locs hP hD hS => ?_)
    have hP : va_P G vwCl [(q_t, .inr (12, [.ref q_t_states, .ref q_t_markMany, .ref q_t_takes, .ref q_t_puts, .ref q_t_goes, .ref q_t_closes, .int F_bytes, .ref q_t_text, .int F_position, .int F_tokenAt, .long F_token, .int F_digits, .int F_number, .int F_faultAt, .int F_readMany, .ref q_t_read, .int F_size, .ref q_t_row, .ref q_t_partner, .ref q_t_some, .ref q_t_stackCome, .ref q_t_stackSince, .ref q_t_stackLetter, .int x16, .int F_come, .int F_since, .ref q_t_runs, .ref q_t_ways, .ref q_t_keptRuns, .ref q_t_keptWays, .ref q_t_rel, .int F_known, .int F_isSpent, .ref q_t_whole, .ref q_t_wholeLong, .int F_wholes, .ref q_t_nodeCome, .ref q_t_nodeSince, .ref q_t_nodeDeep, .ref q_t_nodeLong, .int F_nodes, .int F_places, .ref q_t_wholeMany, .ref q_t_blockTo, .ref q_t_nodeMany, .ref q_t_listCome, .ref q_t_listSince, .int F_listed, .ref q_t_nextCome, .ref q_t_nextSince, .int F_nexts])), (q_t_states, .inl (cI, 2, .inl A_states)), (q_t_markMany, .inl (cI, 2, .inl A_markMany)), (q_t_puts, .inl (cI, 24, .inl A_puts)), (q_t_goes, .inl (cI, 12, .inl A_goes)), (q_t_closes, .inl (cI, 36, .inl A_closes)), (q_t_stackCome, .inl (cI, 24, .inl g13)), (q_t_stackSince, .inl (cI, 24, .inl g14)), (q_t_stackLetter, .inl (cI, 24, .inl g15))] H := hP
    have hD : va_D A [(q_t, .inr (12, [.ref q_t_states, .ref q_t_markMany, .ref q_t_takes, .ref q_t_puts, .ref q_t_goes, .ref q_t_closes, .int F_bytes, .ref q_t_text, .int F_position, .int F_tokenAt, .long F_token, .int F_digits, .int F_number, .int F_faultAt, .int F_readMany, .ref q_t_read, .int F_size, .ref q_t_row, .ref q_t_partner, .ref q_t_some, .ref q_t_stackCome, .ref q_t_stackSince, .ref q_t_stackLetter, .int x16, .int F_come, .int F_since, .ref q_t_runs, .ref q_t_ways, .ref q_t_keptRuns, .ref q_t_keptWays, .ref q_t_rel, .int F_known, .int F_isSpent, .ref q_t_whole, .ref q_t_wholeLong, .int F_wholes, .ref q_t_nodeCome, .ref q_t_nodeSince, .ref q_t_nodeDeep, .ref q_t_nodeLong, .int F_nodes, .int F_places, .ref q_t_wholeMany, .ref q_t_blockTo, .ref q_t_nodeMany, .ref q_t_listCome, .ref q_t_listSince, .int F_listed, .ref q_t_nextCome, .ref q_t_nextSince, .int F_nexts])), (q_t_states, .inl (cI, 2, .inl A_states)), (q_t_markMany, .inl (cI, 2, .inl A_markMany)), (q_t_puts, .inl (cI, 24, .inl A_puts)), (q_t_goes, .inl (cI, 12, .inl A_goes)), (q_t_closes, .inl (cI, 36, .inl A_closes)), (q_t_stackCome, .inl (cI, 24, .inl g13)), (q_t_stackSince, .inl (cI, 24, .inl g14)), (q_t_stackLetter, .inl (cI, 24, .inl g15))] := hD
    refine lv_aload_n hx hb dX12_goOn_51 rfl (lv_at hl 0 rfl) ?_
    refine lv_aload_n hx hb dX12_goOn_52 rfl (lv_at hl 0 rfl) ?_
    refine lv_iload_n hx hb dX12_goOn_53 rfl (lv_at hl 1 rfl) ?_
    refine lv_iload_n hx hb dX12_goOn_54 rfl (lv_at hl 2 rfl) ?_
    refine lv_aload_n hx hb dX12_goOn_55 rfl (lv_at hl 0 rfl) ?_
    refine va_get (D := G) (ci := 12) (v := .int F_come) (C := RX12) (T := TX12) (N := 51) hx hb hts hkX12_goOn_X12 hown hK hP 0 rfl rfl 24 (by decide) (hts (.fieldLink RX12 242 "NestReadersModel" "come" "I") hfX12_goOn_242) (fun _ h9 => h9) rfl dX12_goOn_56 ?_
    refine ms_cVi ⟨hx, hb, hml, hown, hts⟩ hK hP hD (c_X12_opened l G cI cJ cZ q_t q_t_states q_t_markMany q_t_takes q_t_puts q_t_goes q_t_closes q_t_text q_t_read q_t_row q_t_partner q_t_some q_t_stackCome q_t_stackSince q_t_stackLetter q_t_runs q_t_ways q_t_keptRuns q_t_keptWays q_t_rel q_t_whole q_t_wholeLong q_t_nodeCome q_t_nodeSince q_t_nodeDeep q_t_nodeLong q_t_wholeMany q_t_blockTo q_t_nodeMany q_t_listCome q_t_listSince q_t_nextCome q_t_nextSince F_bytes F_position F_tokenAt F_token F_digits F_number F_faultAt F_readMany F_size x16 F_come F_since F_known F_isSpent F_wholes F_nodes F_places F_listed F_nexts A_puts p0 p1 F_come hw) gX12_goOn_X12_opened rfl nd_X12_opened (ci := 12) rfl rfl rfl ⟨rfl, rfl⟩ rfl ⟨Nat.le_of_ble_eq_true rfl, Nat.le_of_ble_eq_true rfl⟩ hl.1 (rest := [.ref q_t]) rfl (Nat.le_of_ble_eq_true rfl)  [0, 3] rfl rfl dX12_goOn_59 (fun r17 hw => ?_)
    refine va_put (D := G) (ci := 12) (v := .int r17) (ty := .int) (C := RX12) (T := TX12) (N := 51) hx hb hts hkX12_goOn_X12 tyX12 tyX12_ok nmX12 hown hK hP hD hS 0 rfl rfl 24 (by decide) (hts (.fieldLink RX12 242 "NestReadersModel" "come" "I") hfX12_goOn_242) (fun _ h9 => h9) rfl (by decide +kernel) rfl rfl (Nat.le_of_ble_eq_true rfl) dX12_goOn_62 (fun H locs hP hD hS => ?_)
    have hP : va_P G vwCl [(q_t, .inr (12, [.ref q_t_states, .ref q_t_markMany, .ref q_t_takes, .ref q_t_puts, .ref q_t_goes, .ref q_t_closes, .int F_bytes, .ref q_t_text, .int F_position, .int F_tokenAt, .long F_token, .int F_digits, .int F_number, .int F_faultAt, .int F_readMany, .ref q_t_read, .int F_size, .ref q_t_row, .ref q_t_partner, .ref q_t_some, .ref q_t_stackCome, .ref q_t_stackSince, .ref q_t_stackLetter, .int x16, .int r17, .int F_since, .ref q_t_runs, .ref q_t_ways, .ref q_t_keptRuns, .ref q_t_keptWays, .ref q_t_rel, .int F_known, .int F_isSpent, .ref q_t_whole, .ref q_t_wholeLong, .int F_wholes, .ref q_t_nodeCome, .ref q_t_nodeSince, .ref q_t_nodeDeep, .ref q_t_nodeLong, .int F_nodes, .int F_places, .ref q_t_wholeMany, .ref q_t_blockTo, .ref q_t_nodeMany, .ref q_t_listCome, .ref q_t_listSince, .int F_listed, .ref q_t_nextCome, .ref q_t_nextSince, .int F_nexts])), (q_t_states, .inl (cI, 2, .inl A_states)), (q_t_markMany, .inl (cI, 2, .inl A_markMany)), (q_t_puts, .inl (cI, 24, .inl A_puts)), (q_t_goes, .inl (cI, 12, .inl A_goes)), (q_t_closes, .inl (cI, 36, .inl A_closes)), (q_t_stackCome, .inl (cI, 24, .inl g13)), (q_t_stackSince, .inl (cI, 24, .inl g14)), (q_t_stackLetter, .inl (cI, 24, .inl g15))] H := hP
    have hD : va_D A [(q_t, .inr (12, [.ref q_t_states, .ref q_t_markMany, .ref q_t_takes, .ref q_t_puts, .ref q_t_goes, .ref q_t_closes, .int F_bytes, .ref q_t_text, .int F_position, .int F_tokenAt, .long F_token, .int F_digits, .int F_number, .int F_faultAt, .int F_readMany, .ref q_t_read, .int F_size, .ref q_t_row, .ref q_t_partner, .ref q_t_some, .ref q_t_stackCome, .ref q_t_stackSince, .ref q_t_stackLetter, .int x16, .int r17, .int F_since, .ref q_t_runs, .ref q_t_ways, .ref q_t_keptRuns, .ref q_t_keptWays, .ref q_t_rel, .int F_known, .int F_isSpent, .ref q_t_whole, .ref q_t_wholeLong, .int F_wholes, .ref q_t_nodeCome, .ref q_t_nodeSince, .ref q_t_nodeDeep, .ref q_t_nodeLong, .int F_nodes, .int F_places, .ref q_t_wholeMany, .ref q_t_blockTo, .ref q_t_nodeMany, .ref q_t_listCome, .ref q_t_listSince, .int F_listed, .ref q_t_nextCome, .ref q_t_nextSince, .int F_nexts])), (q_t_states, .inl (cI, 2, .inl A_states)), (q_t_markMany, .inl (cI, 2, .inl A_markMany)), (q_t_puts, .inl (cI, 24, .inl A_puts)), (q_t_goes, .inl (cI, 12, .inl A_goes)), (q_t_closes, .inl (cI, 36, .inl A_closes)), (q_t_stackCome, .inl (cI, 24, .inl g13)), (q_t_stackSince, .inl (cI, 24, .inl g14)), (q_t_stackLetter, .inl (cI, 24, .inl g15))] := hD
    refine lv_aload_n hx hb dX12_goOn_65 rfl (lv_at hl 0 rfl) ?_
    refine lv_aload_n hx hb dX12_goOn_66 rfl (lv_at hl 0 rfl) ?_
    refine lv_iload_n hx hb dX12_goOn_67 rfl (lv_at hl 1 rfl) ?_
    refine ms_cVi ⟨hx, hb, hml, hown, hts⟩ hK hP hD (c_X12_itself l G cI cJ cZ q_t q_t_states q_t_markMany q_t_takes q_t_puts q_t_goes q_t_closes q_t_text q_t_read q_t_row q_t_partner q_t_some q_t_stackCome q_t_stackSince q_t_stackLetter q_t_runs q_t_ways q_t_keptRuns q_t_keptWays q_t_rel q_t_whole q_t_wholeLong q_t_nodeCome q_t_nodeSince q_t_nodeDeep q_t_nodeLong q_t_wholeMany q_t_blockTo q_t_nodeMany q_t_listCome q_t_listSince q_t_nextCome q_t_nextSince F_bytes F_position F_tokenAt F_token F_digits F_number F_faultAt F_readMany F_size x16 r17 F_since F_known F_isSpent F_wholes F_nodes F_places F_listed F_nexts A_states p0 hw) gX12_goOn_X12_itself rfl nd_X12_itself (ci := 12) rfl rfl rfl ⟨rfl, rfl⟩ rfl ⟨Nat.le_of_ble_eq_true rfl, Nat.le_of_ble_eq_true rfl⟩ hl.1 (rest := [.ref q_t]) rfl (Nat.le_of_ble_eq_true rfl)  [0, 1] rfl rfl dX12_goOn_68 (fun r18 hw => ?_)
    refine va_put (D := G) (ci := 12) (v := .int r18) (ty := .int) (C := RX12) (T := TX12) (N := 51) hx hb hts hkX12_goOn_X12 tyX12 tyX12_ok nmX12 hown hK hP hD hS 0 rfl rfl 25 (by decide) (hts (.fieldLink RX12 248 "NestReadersModel" "since" "I") hfX12_goOn_248) (fun _ h9 => h9) rfl (by decide +kernel) rfl rfl (Nat.le_of_ble_eq_true rfl) dX12_goOn_71 (fun H locs hP hD hS => ?_)
    have hP : va_P G vwCl [(q_t, .inr (12, [.ref q_t_states, .ref q_t_markMany, .ref q_t_takes, .ref q_t_puts, .ref q_t_goes, .ref q_t_closes, .int F_bytes, .ref q_t_text, .int F_position, .int F_tokenAt, .long F_token, .int F_digits, .int F_number, .int F_faultAt, .int F_readMany, .ref q_t_read, .int F_size, .ref q_t_row, .ref q_t_partner, .ref q_t_some, .ref q_t_stackCome, .ref q_t_stackSince, .ref q_t_stackLetter, .int x16, .int r17, .int r18, .ref q_t_runs, .ref q_t_ways, .ref q_t_keptRuns, .ref q_t_keptWays, .ref q_t_rel, .int F_known, .int F_isSpent, .ref q_t_whole, .ref q_t_wholeLong, .int F_wholes, .ref q_t_nodeCome, .ref q_t_nodeSince, .ref q_t_nodeDeep, .ref q_t_nodeLong, .int F_nodes, .int F_places, .ref q_t_wholeMany, .ref q_t_blockTo, .ref q_t_nodeMany, .ref q_t_listCome, .ref q_t_listSince, .int F_listed, .ref q_t_nextCome, .ref q_t_nextSince, .int F_nexts])), (q_t_states, .inl (cI, 2, .inl A_states)), (q_t_markMany, .inl (cI, 2, .inl A_markMany)), (q_t_puts, .inl (cI, 24, .inl A_puts)), (q_t_goes, .inl (cI, 12, .inl A_goes)), (q_t_closes, .inl (cI, 36, .inl A_closes)), (q_t_stackCome, .inl (cI, 24, .inl g13)), (q_t_stackSince, .inl (cI, 24, .inl g14)), (q_t_stackLetter, .inl (cI, 24, .inl g15))] H := hP
    have hD : va_D A [(q_t, .inr (12, [.ref q_t_states, .ref q_t_markMany, .ref q_t_takes, .ref q_t_puts, .ref q_t_goes, .ref q_t_closes, .int F_bytes, .ref q_t_text, .int F_position, .int F_tokenAt, .long F_token, .int F_digits, .int F_number, .int F_faultAt, .int F_readMany, .ref q_t_read, .int F_size, .ref q_t_row, .ref q_t_partner, .ref q_t_some, .ref q_t_stackCome, .ref q_t_stackSince, .ref q_t_stackLetter, .int x16, .int r17, .int r18, .ref q_t_runs, .ref q_t_ways, .ref q_t_keptRuns, .ref q_t_keptWays, .ref q_t_rel, .int F_known, .int F_isSpent, .ref q_t_whole, .ref q_t_wholeLong, .int F_wholes, .ref q_t_nodeCome, .ref q_t_nodeSince, .ref q_t_nodeDeep, .ref q_t_nodeLong, .int F_nodes, .int F_places, .ref q_t_wholeMany, .ref q_t_blockTo, .ref q_t_nodeMany, .ref q_t_listCome, .ref q_t_listSince, .int F_listed, .ref q_t_nextCome, .ref q_t_nextSince, .int F_nexts])), (q_t_states, .inl (cI, 2, .inl A_states)), (q_t_markMany, .inl (cI, 2, .inl A_markMany)), (q_t_puts, .inl (cI, 24, .inl A_puts)), (q_t_goes, .inl (cI, 12, .inl A_goes)), (q_t_closes, .inl (cI, 36, .inl A_closes)), (q_t_stackCome, .inl (cI, 24, .inl g13)), (q_t_stackSince, .inl (cI, 24, .inl g14)), (q_t_stackLetter, .inl (cI, 24, .inl g15))] := hD
    refine lv_goto (tgt := 213) hx hb dX12_goOn_74 (by decide) ?_
    exact hRet ⟨x16, r17, r18, g13, g14, g15⟩ H locs _ _ hw hP hD hS dX12_goOn_213
