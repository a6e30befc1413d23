theorem dX6_wires_0 : decode cX6_wires 0 = .ok (.iload_n 1, 1) := by decide +kernel
theorem dX6_wires_1 : decode cX6_wires 1 = .ok (.iconst 2, 1) := by decide +kernel
theorem dX6_wires_2 : decode cX6_wires 2 = .ok (.if_icmp .lt 9, 3) := by decide +kernel
theorem dX6_wires_5 : decode cX6_wires 5 = .ok (.iload_n 1, 1) := by decide +kernel
theorem dX6_wires_6 : decode cX6_wires 6 = .ok (.bipush 6, 2) := by decide +kernel
theorem dX6_wires_8 : decode cX6_wires 8 = .ok (.if_icmp .le 5, 3) := by decide +kernel
theorem dX6_wires_11 : decode cX6_wires 11 = .ok (.iconst (-1), 1) := by decide +kernel
theorem dX6_wires_12 : decode cX6_wires 12 = .ok (.ireturn, 1) := by decide +kernel
theorem dX6_wires_13 : decode cX6_wires 13 = .ok (.aload_n 0, 1) := by decide +kernel
theorem dX6_wires_14 : decode cX6_wires 14 = .ok (.getfield 20, 3) := by decide +kernel
theorem dX6_wires_17 : decode cX6_wires 17 = .ok (.getfield 56, 3) := by decide +kernel
theorem dX6_wires_20 : decode cX6_wires 20 = .ok (.istore_n 2, 1) := by decide +kernel
theorem dX6_wires_21 : decode cX6_wires 21 = .ok (.aload_n 0, 1) := by decide +kernel
theorem dX6_wires_22 : decode cX6_wires 22 = .ok (.getfield 20, 3) := by decide +kernel
theorem dX6_wires_25 : decode cX6_wires 25 = .ok (.iload_n 1, 1) := by decide +kernel
theorem dX6_wires_26 : decode cX6_wires 26 = .ok (.invokevirtual 60, 3) := by decide +kernel
theorem dX6_wires_29 : decode cX6_wires 29 = .ok (.aload_n 0, 1) := by decide +kernel
theorem dX6_wires_30 : decode cX6_wires 30 = .ok (.getfield 26, 3) := by decide +kernel
theorem dX6_wires_33 : decode cX6_wires 33 = .ok (.invokevirtual 64, 3) := by decide +kernel
theorem dX6_wires_36 : decode cX6_wires 36 = .ok (.iload_n 2, 1) := by decide +kernel
theorem dX6_wires_37 : decode cX6_wires 37 = .ok (.ireturn, 1) := by decide +kernel
def sm_X6_wires_0  (Q : aw_R) (p0 : Nat) (x1 : Int32) (h : aw_H) : Prop :=
  if x1 < 2 then (Q (some (.int ((-1)))) h) else (if x1 ≤ 6 then (sg_R h p0 5 1 fun q1 => sg_I h q1 0 0 fun v2 => sg_R h p0 5 1 fun q3 => sv_O h q3 0 (tr_X0_clear [.ref q3, .int x1] h fun r5 h4 => sr_V r5 <| sg_R h4 p0 5 2 fun q6 => sv_O h4 q6 2 (tr_X3_forget [.ref q6] h4 fun r8 h7 => sr_V r8 <| Q (some (.int v2)) h7))) else (Q (some (.int ((-1)))) h))
set_option maxRecDepth 100000 in
set_option maxHeartbeats 4000000 in
theorem bl_X6_wires_0 {X : aw_X} {Q : aw_R} (C : aw_C X cX6_wires RX6 3 1) (Z : aw_Z X cX6_wires (some .int) Q) (p0 : Nat) (x1 : Int32) (h : aw_H) (hh : sm_X6_wires_0  Q p0 x1 h) : Sat X 0 [.ref p0, .int x1, Value.null] [] h := by
  unfold sm_X6_wires_0 at hh
  refine ow_iload_n C dX6_wires_0 rfl rfl ?_
  refine ow_iconst (v := 2) C dX6_wires_1 rfl ?_
  refine ow_icmp_lt (tgt := 11) C dX6_wires_2 (by decide) hh (fun hh => ?_) (fun hh => ?_)
  · skip
    refine ow_iconst (v := (-1)) C dX6_wires_11 rfl ?_
    exact ow_iret Z dX6_wires_12 trivial hh
  · skip
    refine ow_iload_n C dX6_wires_5 rfl rfl ?_
    refine ow_bipush (v := 6) C dX6_wires_6 rfl ?_
    refine ow_icmp_le (tgt := 13) C dX6_wires_8 (by decide) hh (fun hh => ?_) (fun hh => ?_)
    · skip
      refine ow_aload_n C dX6_wires_13 rfl rfl ?_
      refine ow_getR (ci := 5) (k := 1) (T := TX6) C rfl igX6 (by decide) kw_308 dX6_wires_14 hh (fun q1 hh => ?_)
      refine ow_getI (ci := 0) (k := 0) (T := TX0) C rfl igX0 (by decide) kw_309 dX6_wires_17 hh (fun v2 hh => ?_)
      refine ow_istore_n (L' := [.ref p0, .int x1, .int v2]) C dX6_wires_20 rfl (by decide) rfl ?_
      refine ow_aload_n C dX6_wires_21 rfl rfl ?_
      refine ow_getR (ci := 5) (k := 1) (T := TX6) C rfl igX6 (by decide) kw_308 dX6_wires_22 hh (fun q3 hh => ?_)
      refine ow_iload_n C dX6_wires_25 rfl rfl ?_
      refine ow_callV C (cv_X0_clear _) (Nat.le_of_ble_eq_true rfl) kw_310 dX6_wires_26 (as := [.int x1]) (st := []) rfl rfl (Nat.le_of_ble_eq_true rfl) hh (fun r5 h4 hq => ?_)
      obtain ⟨rfl, hh⟩ := sr_V_e hq
      show Sat X 29 [.ref p0, .int x1, .int v2] [] h4
      refine ow_aload_n C dX6_wires_29 rfl rfl ?_
      refine ow_getR (ci := 5) (k := 2) (T := TX6) C rfl igX6 (by decide) kw_311 dX6_wires_30 hh (fun q6 hh => ?_)
      refine ow_callV C (cv_X3_forget _) (Nat.le_of_ble_eq_true rfl) kw_312 dX6_wires_33 (as := []) (st := []) rfl rfl (Nat.le_of_ble_eq_true rfl) hh (fun r8 h7 hq => ?_)
      obtain ⟨rfl, hh⟩ := sr_V_e hq
      show Sat X 36 [.ref p0, .int x1, .int v2] [] h7
      refine ow_iload_n C dX6_wires_36 rfl rfl ?_
      exact ow_iret Z dX6_wires_37 trivial hh
    · skip
      refine ow_iconst (v := (-1)) C dX6_wires_11 rfl ?_
      exact ow_iret Z dX6_wires_12 trivial hh
def tr_X6_wires : aw_T := fun as h Q => ∃ (p0 : Nat) (x1 : Int32), as = [.ref p0, .int x1] ∧ (sm_X6_wires_0  Q p0 x1 h)
theorem tq_X6_wires {p0 : Nat} {x1 : Int32} {h : aw_H} {Q : aw_R} : tr_X6_wires [.ref p0, .int x1] h Q ↔ (sm_X6_wires_0  Q p0 x1 h) := by
  constructor
  · rintro ⟨_, _, as0, hh⟩
    cases as0
    exact hh
  · intro hh
    exact ⟨_, _, rfl, hh⟩
theorem ct_X6_wires (E : aw_F) : CT E yX6_wires cX6_wires 3 (some .int) 1 tr_X6_wires := by
  refine ct_of (by decide) ?_
  intro X Q as h hE C Z hG
  subst hE
  obtain ⟨p0, x1, rfl, hh⟩ := hG
  refine ⟨[.ref p0, .int x1, Value.null], rfl, Nat.le_of_ble_eq_true rfl, ?_⟩
  exact bl_X6_wires_0 C Z p0 x1 h hh
theorem cv_X6_wires (E : aw_F) : CV E yX6_wires cX6_wires 3 (some .int) 1 1 5 tr_X6_wires := ⟨ct_X6_wires E, by decide, kw_315, kw_316, kw_314, kw_313, by decide +kernel, _, _, rfl⟩
theorem dX6_gate_0 : decode cX6_gate 0 = .ok (.iload_n 1, 1) := by decide +kernel
theorem dX6_gate_1 : decode cX6_gate 1 = .ok (.iload_n 2, 1) := by decide +kernel
theorem dX6_gate_2 : decode cX6_gate 2 = .ok (.iload_n 3, 1) := by decide +kernel
theorem dX6_gate_3 : decode cX6_gate 3 = .ok (.iload 4, 2) := by decide +kernel
theorem dX6_gate_5 : decode cX6_gate 5 = .ok (.aload_n 0, 1) := by decide +kernel
theorem dX6_gate_6 : decode cX6_gate 6 = .ok (.getfield 20, 3) := by decide +kernel
theorem dX6_gate_9 : decode cX6_gate 9 = .ok (.getfield 56, 3) := by decide +kernel
theorem dX6_gate_12 : decode cX6_gate 12 = .ok (.invokestatic 67, 3) := by decide +kernel
theorem dX6_gate_15 : decode cX6_gate 15 = .ok (.ifCond .ne 5, 3) := by decide +kernel
theorem dX6_gate_18 : decode cX6_gate 18 = .ok (.iconst (-1), 1) := by decide +kernel
theorem dX6_gate_19 : decode cX6_gate 19 = .ok (.ireturn, 1) := by decide +kernel
theorem dX6_gate_20 : decode cX6_gate 20 = .ok (.aload_n 0, 1) := by decide +kernel
theorem dX6_gate_21 : decode cX6_gate 21 = .ok (.getfield 20, 3) := by decide +kernel
theorem dX6_gate_24 : decode cX6_gate 24 = .ok (.getfield 73, 3) := by decide +kernel
theorem dX6_gate_27 : decode cX6_gate 27 = .ok (.bipush 16, 2) := by decide +kernel
theorem dX6_gate_29 : decode cX6_gate 29 = .ok (.if_icmp .lt 6, 3) := by decide +kernel
theorem dX6_gate_32 : decode cX6_gate 32 = .ok (.bipush (-3), 2) := by decide +kernel
theorem dX6_gate_34 : decode cX6_gate 34 = .ok (.ireturn, 1) := by decide +kernel
theorem dX6_gate_35 : decode cX6_gate 35 = .ok (.aload_n 0, 1) := by decide +kernel
theorem dX6_gate_36 : decode cX6_gate 36 = .ok (.getfield 20, 3) := by decide +kernel
theorem dX6_gate_39 : decode cX6_gate 39 = .ok (.iload_n 1, 1) := by decide +kernel
theorem dX6_gate_40 : decode cX6_gate 40 = .ok (.iload_n 2, 1) := by decide +kernel
theorem dX6_gate_41 : decode cX6_gate 41 = .ok (.iload_n 3, 1) := by decide +kernel
theorem dX6_gate_42 : decode cX6_gate 42 = .ok (.iload 4, 2) := by decide +kernel
theorem dX6_gate_44 : decode cX6_gate 44 = .ok (.invokestatic 76, 3) := by decide +kernel
theorem dX6_gate_47 : decode cX6_gate 47 = .ok (.invokevirtual 80, 3) := by decide +kernel
theorem dX6_gate_50 : decode cX6_gate 50 = .ok (.aload_n 0, 1) := by decide +kernel
theorem dX6_gate_51 : decode cX6_gate 51 = .ok (.getfield 26, 3) := by decide +kernel
theorem dX6_gate_54 : decode cX6_gate 54 = .ok (.invokevirtual 64, 3) := by decide +kernel
theorem dX6_gate_57 : decode cX6_gate 57 = .ok (.aload_n 0, 1) := by decide +kernel
theorem dX6_gate_58 : decode cX6_gate 58 = .ok (.getfield 20, 3) := by decide +kernel
theorem dX6_gate_61 : decode cX6_gate 61 = .ok (.getfield 73, 3) := by decide +kernel
theorem dX6_gate_64 : decode cX6_gate 64 = .ok (.iconst 1, 1) := by decide +kernel
theorem dX6_gate_65 : decode cX6_gate 65 = .ok (.isub, 1) := by decide +kernel
theorem dX6_gate_66 : decode cX6_gate 66 = .ok (.ireturn, 1) := by decide +kernel
def sm_X6_gate_0  (Q : aw_R) (p0 : Nat) (x1 : Int32) (x2 : Int32) (x3 : Int32) (x4 : Int32) (h : aw_H) : Prop :=
  sg_R h p0 5 1 fun q1 => sg_I h q1 0 0 fun v2 => tr_X2_mayLie [.int x1, .int x2, .int x3, .int x4, .int v2] h fun r4 h3 => sr_I r4 fun v5 => if ¬ v5 = 0 then (sg_R h3 p0 5 1 fun q6 => sg_I h3 q6 0 1 fun v7 => if v7 < 16 then (sg_R h3 p0 5 1 fun q8 => tr_X2_pack [.int x1, .int x2, .int x3, .int x4] h3 fun r10 h9 => sr_I r10 fun v11 => sv_O h9 q8 0 (tr_X0_add [.ref q8, .int v11] h9 fun r13 h12 => sr_V r13 <| sg_R h12 p0 5 2 fun q14 => sv_O h12 q14 2 (tr_X3_forget [.ref q14] h12 fun r16 h15 => sr_V r16 <| sg_R h15 p0 5 1 fun q17 => sg_I h15 q17 0 1 fun v18 => Q (some (.int (v18 - 1))) h15))) else (Q (some (.int ((-3)))) h3)) else (Q (some (.int ((-1)))) h3)
set_option maxRecDepth 100000 in
set_option maxHeartbeats 4000000 in
theorem bl_X6_gate_0 {X : aw_X} {Q : aw_R} (C : aw_C X cX6_gate RX6 5 3) (Z : aw_Z X cX6_gate (some .int) Q) (p0 : Nat) (x1 : Int32) (x2 : Int32) (x3 : Int32) (x4 : Int32) (h : aw_H) (hh : sm_X6_gate_0  Q p0 x1 x2 x3 x4 h) : Sat X 0 [.ref p0, .int x1, .int x2, .int x3, .int x4] [] h := by
  unfold sm_X6_gate_0 at hh
  refine ow_iload_n C dX6_gate_0 rfl rfl ?_
  refine ow_iload_n C dX6_gate_1 rfl rfl ?_
  refine ow_iload_n C dX6_gate_2 rfl rfl ?_
  refine ow_iload C dX6_gate_3 rfl ?_
  refine ow_aload_n C dX6_gate_5 rfl rfl ?_
  refine ow_getR (ci := 5) (k := 1) (T := TX6) C rfl igX6 (by decide) kw_308 dX6_gate_6 hh (fun q1 hh => ?_)
  refine ow_getI (ci := 0) (k := 0) (T := TX0) C rfl igX0 (by decide) kw_309 dX6_gate_9 hh (fun v2 hh => ?_)
  refine ow_callS C (cs_X2_mayLie _) (Nat.le_of_ble_eq_true rfl) kw_317 dX6_gate_12 (as := [.int x1, .int x2, .int x3, .int x4, .int v2]) (st := []) rfl rfl (Nat.le_of_ble_eq_true rfl) hh (fun r4 h3 hq => ?_)
  obtain ⟨v5, rfl, hh⟩ := sr_I_e hq
  show Sat X 15 [.ref p0, .int x1, .int x2, .int x3, .int x4] [.int v5] h3
  refine ow_if_ne (tgt := 20) C dX6_gate_15 (by decide) hh (fun hh => ?_) (fun hh => ?_)
  · skip
    refine ow_aload_n C dX6_gate_20 rfl rfl ?_
    refine ow_getR (ci := 5) (k := 1) (T := TX6) C rfl igX6 (by decide) kw_308 dX6_gate_21 hh (fun q6 hh => ?_)
    refine ow_getI (ci := 0) (k := 1) (T := TX0) C rfl igX0 (by decide) kw_318 dX6_gate_24 hh (fun v7 hh => ?_)
    refine ow_bipush (v := 16) C dX6_gate_27 rfl ?_
    refine ow_icmp_lt (tgt := 35) C dX6_gate_29 (by decide) hh (fun hh => ?_) (fun hh => ?_)
    · skip
      refine ow_aload_n C dX6_gate_35 rfl rfl ?_
      refine ow_getR (ci := 5) (k := 1) (T := TX6) C rfl igX6 (by decide) kw_308 dX6_gate_36 hh (fun q8 hh => ?_)
      refine ow_iload_n C dX6_gate_39 rfl rfl ?_
      refine ow_iload_n C dX6_gate_40 rfl rfl ?_
      refine ow_iload_n C dX6_gate_41 rfl rfl ?_
      refine ow_iload C dX6_gate_42 rfl ?_
      refine ow_callS C (cs_X2_pack _) (Nat.le_of_ble_eq_true rfl) kw_319 dX6_gate_44 (as := [.int x1, .int x2, .int x3, .int x4]) (st := [.ref q8]) rfl rfl (Nat.le_of_ble_eq_true rfl) hh (fun r10 h9 hq => ?_)
      obtain ⟨v11, rfl, hh⟩ := sr_I_e hq
      show Sat X 47 [.ref p0, .int x1, .int x2, .int x3, .int x4] [.int v11, .ref q8] h9
      refine ow_callV C (cv_X0_add _) (Nat.le_of_ble_eq_true rfl) kw_320 dX6_gate_47 (as := [.int v11]) (st := []) rfl rfl (Nat.le_of_ble_eq_true rfl) hh (fun r13 h12 hq => ?_)
      obtain ⟨rfl, hh⟩ := sr_V_e hq
      show Sat X 50 [.ref p0, .int x1, .int x2, .int x3, .int x4] [] h12
      refine ow_aload_n C dX6_gate_50 rfl rfl ?_
      refine ow_getR (ci := 5) (k := 2) (T := TX6) C rfl igX6 (by decide) kw_311 dX6_gate_51 hh (fun q14 hh => ?_)
      refine ow_callV C (cv_X3_forget _) (Nat.le_of_ble_eq_true rfl) kw_312 dX6_gate_54 (as := []) (st := []) rfl rfl (Nat.le_of_ble_eq_true rfl) hh (fun r16 h15 hq => ?_)
      obtain ⟨rfl, hh⟩ := sr_V_e hq
      show Sat X 57 [.ref p0, .int x1, .int x2, .int x3, .int x4] [] h15
      refine ow_aload_n C dX6_gate_57 rfl rfl ?_
      refine ow_getR (ci := 5) (k := 1) (T := TX6) C rfl igX6 (by decide) kw_308 dX6_gate_58 hh (fun q17 hh => ?_)
      refine ow_getI (ci := 0) (k := 1) (T := TX0) C rfl igX0 (by decide) kw_318 dX6_gate_61 hh (fun v18 hh => ?_)
      refine ow_iconst (v := 1) C dX6_gate_64 rfl ?_
      refine ow_isub C dX6_gate_65 ?_
      exact ow_iret Z dX6_gate_66 trivial hh
    · skip
      refine ow_bipush (v := (-3)) C dX6_gate_32 rfl ?_
      exact ow_iret Z dX6_gate_34 trivial hh
  · skip
    refine ow_iconst (v := (-1)) C dX6_gate_18 rfl ?_
    exact ow_iret Z dX6_gate_19 trivial hh
def tr_X6_gate : aw_T := fun as h Q => ∃ (p0 : Nat) (x1 : Int32) (x2 : Int32) (x3 : Int32) (x4 : Int32), as = [.ref p0, .int x1, .int x2, .int x3, .int x4] ∧ (sm_X6_gate_0  Q p0 x1 x2 x3 x4 h)
theorem tq_X6_gate {p0 : Nat} {x1 : Int32} {x2 : Int32} {x3 : Int32} {x4 : Int32} {h : aw_H} {Q : aw_R} : tr_X6_gate [.ref p0, .int x1, .int x2, .int x3, .int x4] h Q ↔ (sm_X6_gate_0  Q p0 x1 x2 x3 x4 h) := by
  constructor
  · rintro ⟨_, _, _, _, _, as0, hh⟩
    cases as0
    exact hh
  · intro hh
    exact ⟨_, _, _, _, _, rfl, hh⟩
theorem ct_X6_gate (E : aw_F) : CT E yX6_gate cX6_gate 5 (some .int) 3 tr_X6_gate := by
  refine ct_of (by decide) ?_
  intro X Q as h hE C Z hG
  subst hE
  obtain ⟨p0, x1, x2, x3, x4, rfl, hh⟩ := hG
  refine ⟨[.ref p0, .int x1, .int x2, .int x3, .int x4], rfl, Nat.le_of_ble_eq_true rfl, ?_⟩
  exact bl_X6_gate_0 C Z p0 x1 x2 x3 x4 h hh
theorem cv_X6_gate (E : aw_F) : CV E yX6_gate cX6_gate 5 (some .int) 3 4 5 tr_X6_gate := ⟨ct_X6_gate E, by decide, kw_322, kw_323, kw_314, kw_321, by decide +kernel, _, _, rfl⟩
theorem dX6_isGate_0 : decode cX6_isGate 0 = .ok (.iload_n 1, 1) := by decide +kernel
theorem dX6_isGate_1 : decode cX6_isGate 1 = .ok (.ifCond .lt 18, 3) := by decide +kernel
theorem dX6_isGate_4 : decode cX6_isGate 4 = .ok (.iload_n 1, 1) := by decide +kernel
theorem dX6_isGate_5 : decode cX6_isGate 5 = .ok (.aload_n 0, 1) := by decide +kernel
theorem dX6_isGate_6 : decode cX6_isGate 6 = .ok (.getfield 20, 3) := by decide +kernel
theorem dX6_isGate_9 : decode cX6_isGate 9 = .ok (.getfield 73, 3) := by decide +kernel
theorem dX6_isGate_12 : decode cX6_isGate 12 = .ok (.if_icmp .ge 7, 3) := by decide +kernel
theorem dX6_isGate_15 : decode cX6_isGate 15 = .ok (.iconst 1, 1) := by decide +kernel
theorem dX6_isGate_16 : decode cX6_isGate 16 = .ok (.goto 4, 3) := by decide +kernel
theorem dX6_isGate_19 : decode cX6_isGate 19 = .ok (.iconst 0, 1) := by decide +kernel
theorem dX6_isGate_20 : decode cX6_isGate 20 = .ok (.ireturn, 1) := by decide +kernel
def sm_X6_isGate_0  (Q : aw_R) (p0 : Nat) (x1 : Int32) (h : aw_H) : Prop :=
  if x1 < 0 then (Q (some (.int 0)) h) else (sg_R h p0 5 1 fun q1 => sg_I h q1 0 1 fun v2 => if v2 ≤ x1 then (Q (some (.int 0)) h) else (Q (some (.int 1)) h))
set_option maxRecDepth 100000 in
set_option maxHeartbeats 4000000 in
theorem bl_X6_isGate_0 {X : aw_X} {Q : aw_R} (C : aw_C X cX6_isGate RX6 2 0) (Z : aw_Z X cX6_isGate (some .boolean) Q) (p0 : Nat) (x1 : Int32) (h : aw_H) (hh : sm_X6_isGate_0  Q p0 x1 h) : Sat X 0 [.ref p0, .int x1] [] h := by
  unfold sm_X6_isGate_0 at hh
  refine ow_iload_n C dX6_isGate_0 rfl rfl ?_
  refine ow_if_lt (tgt := 19) C dX6_isGate_1 (by decide) hh (fun hh => ?_) (fun hh => ?_)
  · skip
    refine ow_iconst (v := 0) C dX6_isGate_19 rfl ?_
    exact ow_iret Z dX6_isGate_20 (Or.inl rfl) hh
  · skip
    refine ow_iload_n C dX6_isGate_4 rfl rfl ?_
    refine ow_aload_n C dX6_isGate_5 rfl rfl ?_
    refine ow_getR (ci := 5) (k := 1) (T := TX6) C rfl igX6 (by decide) kw_308 dX6_isGate_6 hh (fun q1 hh => ?_)
    refine ow_getI (ci := 0) (k := 1) (T := TX0) C rfl igX0 (by decide) kw_318 dX6_isGate_9 hh (fun v2 hh => ?_)
    refine ow_icmp_ge (tgt := 19) C dX6_isGate_12 (by decide) hh (fun hh => ?_) (fun hh => ?_)
    · skip
      refine ow_iconst (v := 0) C dX6_isGate_19 rfl ?_
      exact ow_iret Z dX6_isGate_20 (Or.inl rfl) hh
    · skip
      refine ow_iconst (v := 1) C dX6_isGate_15 rfl ?_
      refine ow_goto (tgt := 20) C dX6_isGate_16 (by decide) ?_
      exact ow_iret Z dX6_isGate_20 (Or.inr rfl) hh
def tr_X6_isGate : aw_T := fun as h Q => ∃ (p0 : Nat) (x1 : Int32), as = [.ref p0, .int x1] ∧ (sm_X6_isGate_0  Q p0 x1 h)
theorem tq_X6_isGate {p0 : Nat} {x1 : Int32} {h : aw_H} {Q : aw_R} : tr_X6_isGate [.ref p0, .int x1] h Q ↔ (sm_X6_isGate_0  Q p0 x1 h) := by
  constructor
  · rintro ⟨_, _, as0, hh⟩
    cases as0
    exact hh
  · intro hh
    exact ⟨_, _, rfl, hh⟩
theorem ct_X6_isGate (E : aw_F) : CT E yX6_isGate cX6_isGate 2 (some .boolean) 0 tr_X6_isGate := by
  refine ct_of (by decide) ?_
  intro X Q as h hE C Z hG
  subst hE
  obtain ⟨p0, x1, rfl, hh⟩ := hG
  refine ⟨[.ref p0, .int x1], rfl, Nat.le_of_ble_eq_true rfl, ?_⟩
  exact bl_X6_isGate_0 C Z p0 x1 h hh
theorem cv_X6_isGate (E : aw_F) : CV E yX6_isGate cX6_isGate 2 (some .boolean) 0 1 5 tr_X6_isGate := ⟨ct_X6_isGate E, by decide, kw_325, kw_326, kw_314, kw_324, by decide +kernel, _, _, rfl⟩
theorem dX6_of_0 : decode cX6_of 0 = .ok (.aload_n 0, 1) := by decide +kernel
theorem dX6_of_1 : decode cX6_of 1 = .ok (.iload_n 1, 1) := by decide +kernel
theorem dX6_of_2 : decode cX6_of 2 = .ok (.invokevirtual 83, 3) := by decide +kernel
theorem dX6_of_5 : decode cX6_of 5 = .ok (.ifCond .eq 12, 3) := by decide +kernel
theorem dX6_of_8 : decode cX6_of 8 = .ok (.iload_n 2, 1) := by decide +kernel
theorem dX6_of_9 : decode cX6_of 9 = .ok (.ifCond .lt 8, 3) := by decide +kernel
theorem dX6_of_12 : decode cX6_of 12 = .ok (.iload_n 2, 1) := by decide +kernel
theorem dX6_of_13 : decode cX6_of 13 = .ok (.iconst 4, 1) := by decide +kernel
theorem dX6_of_14 : decode cX6_of 14 = .ok (.if_icmp .le 5, 3) := by decide +kernel
theorem dX6_of_17 : decode cX6_of 17 = .ok (.iconst (-1), 1) := by decide +kernel
theorem dX6_of_18 : decode cX6_of 18 = .ok (.ireturn, 1) := by decide +kernel
theorem dX6_of_19 : decode cX6_of 19 = .ok (.aload_n 0, 1) := by decide +kernel
theorem dX6_of_20 : decode cX6_of 20 = .ok (.getfield 20, 3) := by decide +kernel
theorem dX6_of_23 : decode cX6_of 23 = .ok (.getfield 87, 3) := by decide +kernel
theorem dX6_of_26 : decode cX6_of 26 = .ok (.iload_n 1, 1) := by decide +kernel
theorem dX6_of_27 : decode cX6_of 27 = .ok (.iaload, 1) := by decide +kernel
theorem dX6_of_28 : decode cX6_of 28 = .ok (.istore_n 3, 1) := by decide +kernel
theorem dX6_of_29 : decode cX6_of 29 = .ok (.iload_n 2, 1) := by decide +kernel
theorem dX6_of_30 : decode cX6_of 30 = .ok (.ifCond .ne 8, 3) := by decide +kernel
theorem dX6_of_33 : decode cX6_of 33 = .ok (.iload_n 3, 1) := by decide +kernel
theorem dX6_of_34 : decode cX6_of 34 = .ok (.invokestatic 91, 3) := by decide +kernel
theorem dX6_of_37 : decode cX6_of 37 = .ok (.ireturn, 1) := by decide +kernel
theorem dX6_of_38 : decode cX6_of 38 = .ok (.iload_n 2, 1) := by decide +kernel
theorem dX6_of_39 : decode cX6_of 39 = .ok (.iconst 4, 1) := by decide +kernel
theorem dX6_of_40 : decode cX6_of 40 = .ok (.if_icmp .ne 16, 3) := by decide +kernel
theorem dX6_of_43 : decode cX6_of 43 = .ok (.iload_n 3, 1) := by decide +kernel
theorem dX6_of_44 : decode cX6_of 44 = .ok (.invokestatic 95, 3) := by decide +kernel
theorem dX6_of_47 : decode cX6_of 47 = .ok (.ifCond .eq 7, 3) := by decide +kernel
theorem dX6_of_50 : decode cX6_of 50 = .ok (.iconst 1, 1) := by decide +kernel
theorem dX6_of_51 : decode cX6_of 51 = .ok (.goto 4, 3) := by decide +kernel
theorem dX6_of_54 : decode cX6_of 54 = .ok (.iconst 0, 1) := by decide +kernel
theorem dX6_of_55 : decode cX6_of 55 = .ok (.ireturn, 1) := by decide +kernel
theorem dX6_of_56 : decode cX6_of 56 = .ok (.iload_n 3, 1) := by decide +kernel
theorem dX6_of_57 : decode cX6_of 57 = .ok (.iload_n 2, 1) := by decide +kernel
theorem dX6_of_58 : decode cX6_of 58 = .ok (.iconst 1, 1) := by decide +kernel
theorem dX6_of_59 : decode cX6_of 59 = .ok (.isub, 1) := by decide +kernel
theorem dX6_of_60 : decode cX6_of 60 = .ok (.invokestatic 98, 3) := by decide +kernel
theorem dX6_of_63 : decode cX6_of 63 = .ok (.ireturn, 1) := by decide +kernel
def sm_X6_of_0  (Q : aw_R) (p0 : Nat) (x1 : Int32) (x2 : Int32) (h : aw_H) : Prop :=
  sv_O h p0 5 (tr_X6_isGate [.ref p0, .int x1] h fun r2 h1 => sr_I r2 fun v3 => if v3 = 0 then (Q (some (.int ((-1)))) h1) else (if x2 < 0 then (Q (some (.int ((-1)))) h1) else (if x2 ≤ 4 then (sg_R h1 p0 5 1 fun q4 => sg_R h1 q4 0 2 fun q5 => sa_I h1 q5 x1 fun v6 => if ¬ x2 = 0 then (if ¬ x2 = 4 then (tr_X2_wireAt [.int v6, .int (x2 - 1)] h1 fun r8 h7 => sr_I r8 fun v9 => Q (some (.int v9)) h7) else (tr_X2_isDead [.int v6] h1 fun r11 h10 => sr_I r11 fun v12 => if v12 = 0 then (Q (some (.int 0)) h10) else (Q (some (.int 1)) h10))) else (tr_X2_kindOf [.int v6] h1 fun r14 h13 => sr_I r14 fun v15 => Q (some (.int v15)) h13)) else (Q (some (.int ((-1)))) h1))))
set_option maxRecDepth 100000 in
set_option maxHeartbeats 4000000 in
theorem bl_X6_of_0 {X : aw_X} {Q : aw_R} (C : aw_C X cX6_of RX6 4 1) (Z : aw_Z X cX6_of (some .int) Q) (p0 : Nat) (x1 : Int32) (x2 : Int32) (h : aw_H) (hh : sm_X6_of_0  Q p0 x1 x2 h) : Sat X 0 [.ref p0, .int x1, .int x2, Value.null] [] h := by
  unfold sm_X6_of_0 at hh
  refine ow_aload_n C dX6_of_0 rfl rfl ?_
  refine ow_iload_n C dX6_of_1 rfl rfl ?_
  refine ow_callV C (cv_X6_isGate _) (Nat.le_of_ble_eq_true rfl) kw_327 dX6_of_2 (as := [.int x1]) (st := []) rfl rfl (Nat.le_of_ble_eq_true rfl) hh (fun r2 h1 hq => ?_)
  obtain ⟨v3, rfl, hh⟩ := sr_I_e hq
  show Sat X 5 [.ref p0, .int x1, .int x2, Value.null] [.int v3] h1
  refine ow_if_eq (tgt := 17) C dX6_of_5 (by decide) hh (fun hh => ?_) (fun hh => ?_)
  · skip
    refine ow_iconst (v := (-1)) C dX6_of_17 rfl ?_
    exact ow_iret Z dX6_of_18 trivial hh
  · skip
    refine ow_iload_n C dX6_of_8 rfl rfl ?_
    refine ow_if_lt (tgt := 17) C dX6_of_9 (by decide) hh (fun hh => ?_) (fun hh => ?_)
    · skip
      refine ow_iconst (v := (-1)) C dX6_of_17 rfl ?_
      exact ow_iret Z dX6_of_18 trivial hh
    · skip
      refine ow_iload_n C dX6_of_12 rfl rfl ?_
      refine ow_iconst (v := 4) C dX6_of_13 rfl ?_
      refine ow_icmp_le (tgt := 19) C dX6_of_14 (by decide) hh (fun hh => ?_) (fun hh => ?_)
      · skip
        refine ow_aload_n C dX6_of_19 rfl rfl ?_
        refine ow_getR (ci := 5) (k := 1) (T := TX6) C rfl igX6 (by decide) kw_308 dX6_of_20 hh (fun q4 hh => ?_)
        refine ow_getR (ci := 0) (k := 2) (T := TX0) C rfl igX0 (by decide) kw_328 dX6_of_23 hh (fun q5 hh => ?_)
        refine ow_iload_n C dX6_of_26 rfl rfl ?_
        refine ow_iaload C dX6_of_27 hh (fun v6 hh => ?_)
        refine ow_istore_n (L' := [.ref p0, .int x1, .int x2, .int v6]) C dX6_of_28 rfl (by decide) rfl ?_
        refine ow_iload_n C dX6_of_29 rfl rfl ?_
        refine ow_if_ne (tgt := 38) C dX6_of_30 (by decide) hh (fun hh => ?_) (fun hh => ?_)
        · skip
          refine ow_iload_n C dX6_of_38 rfl rfl ?_
          refine ow_iconst (v := 4) C dX6_of_39 rfl ?_
          refine ow_icmp_ne (tgt := 56) C dX6_of_40 (by decide) hh (fun hh => ?_) (fun hh => ?_)
          · skip
            refine ow_iload_n C dX6_of_56 rfl rfl ?_
            refine ow_iload_n C dX6_of_57 rfl rfl ?_
            refine ow_iconst (v := 1) C dX6_of_58 rfl ?_
            refine ow_isub C dX6_of_59 ?_
            refine ow_callS C (cs_X2_wireAt _) (Nat.le_of_ble_eq_true rfl) kw_329 dX6_of_60 (as := [.int v6, .int (x2 - 1)]) (st := []) rfl rfl (Nat.le_of_ble_eq_true rfl) hh (fun r8 h7 hq => ?_)
            obtain ⟨v9, rfl, hh⟩ := sr_I_e hq
            show Sat X 63 [.ref p0, .int x1, .int x2, .int v6] [.int v9] h7
            exact ow_iret Z dX6_of_63 trivial hh
          · skip
            refine ow_iload_n C dX6_of_43 rfl rfl ?_
            refine ow_callS C (cs_X2_isDead _) (Nat.le_of_ble_eq_true rfl) kw_330 dX6_of_44 (as := [.int v6]) (st := []) rfl rfl (Nat.le_of_ble_eq_true rfl) hh (fun r11 h10 hq => ?_)
            obtain ⟨v12, rfl, hh⟩ := sr_I_e hq
            show Sat X 47 [.ref p0, .int x1, .int x2, .int v6] [.int v12] h10
            refine ow_if_eq (tgt := 54) C dX6_of_47 (by decide) hh (fun hh => ?_) (fun hh => ?_)
            · skip
              refine ow_iconst (v := 0) C dX6_of_54 rfl ?_
              exact ow_iret Z dX6_of_55 trivial hh
            · skip
              refine ow_iconst (v := 1) C dX6_of_50 rfl ?_
              refine ow_goto (tgt := 55) C dX6_of_51 (by decide) ?_
              exact ow_iret Z dX6_of_55 trivial hh
        · skip
          refine ow_iload_n C dX6_of_33 rfl rfl ?_
          refine ow_callS C (cs_X2_kindOf _) (Nat.le_of_ble_eq_true rfl) kw_331 dX6_of_34 (as := [.int v6]) (st := []) rfl rfl (Nat.le_of_ble_eq_true rfl) hh (fun r14 h13 hq => ?_)
          obtain ⟨v15, rfl, hh⟩ := sr_I_e hq
          show Sat X 37 [.ref p0, .int x1, .int x2, .int v6] [.int v15] h13
          exact ow_iret Z dX6_of_37 trivial hh
      · skip
        refine ow_iconst (v := (-1)) C dX6_of_17 rfl ?_
        exact ow_iret Z dX6_of_18 trivial hh
def tr_X6_of : aw_T := fun as h Q => ∃ (p0 : Nat) (x1 : Int32) (x2 : Int32), as = [.ref p0, .int x1, .int x2] ∧ (sm_X6_of_0  Q p0 x1 x2 h)
theorem tq_X6_of {p0 : Nat} {x1 : Int32} {x2 : Int32} {h : aw_H} {Q : aw_R} : tr_X6_of [.ref p0, .int x1, .int x2] h Q ↔ (sm_X6_of_0  Q p0 x1 x2 h) := by
  constructor
  · rintro ⟨_, _, _, as0, hh⟩
    cases as0
    exact hh
  · intro hh
    exact ⟨_, _, _, rfl, hh⟩
theorem ct_X6_of (E : aw_F) : CT E yX6_of cX6_of 4 (some .int) 1 tr_X6_of := by
  refine ct_of (by decide) ?_
  intro X Q as h hE C Z hG
  subst hE
  obtain ⟨p0, x1, x2, rfl, hh⟩ := hG
  refine ⟨[.ref p0, .int x1, .int x2, Value.null], rfl, Nat.le_of_ble_eq_true rfl, ?_⟩
  exact bl_X6_of_0 C Z p0 x1 x2 h hh
theorem cv_X6_of (E : aw_F) : CV E yX6_of cX6_of 4 (some .int) 1 2 5 tr_X6_of := ⟨ct_X6_of E, by decide, kw_333, kw_334, kw_314, kw_332, by decide +kernel, _, _, rfl⟩
theorem dX6_isState_0 : decode cX6_isState 0 = .ok (.iload_n 1, 1) := by decide +kernel
theorem dX6_isState_1 : decode cX6_isState 1 = .ok (.ifCond .lt 18, 3) := by decide +kernel
theorem dX6_isState_4 : decode cX6_isState 4 = .ok (.iload_n 1, 1) := by decide +kernel
theorem dX6_isState_5 : decode cX6_isState 5 = .ok (.aload_n 0, 1) := by decide +kernel
theorem dX6_isState_6 : decode cX6_isState 6 = .ok (.getfield 20, 3) := by decide +kernel
theorem dX6_isState_9 : decode cX6_isState 9 = .ok (.invokevirtual 205, 3) := by decide +kernel
theorem dX6_isState_12 : decode cX6_isState 12 = .ok (.if_icmp .ge 7, 3) := by decide +kernel
theorem dX6_isState_15 : decode cX6_isState 15 = .ok (.iconst 1, 1) := by decide +kernel
theorem dX6_isState_16 : decode cX6_isState 16 = .ok (.goto 4, 3) := by decide +kernel
theorem dX6_isState_19 : decode cX6_isState 19 = .ok (.iconst 0, 1) := by decide +kernel
theorem dX6_isState_20 : decode cX6_isState 20 = .ok (.ireturn, 1) := by decide +kernel
def sm_X6_isState_0  (Q : aw_R) (p0 : Nat) (x1 : Int32) (h : aw_H) : Prop :=
  if x1 < 0 then (Q (some (.int 0)) h) else (sg_R h p0 5 1 fun q1 => sv_O h q1 0 (tr_X0_states [.ref q1] h fun r3 h2 => sr_I r3 fun v4 => if v4 ≤ x1 then (Q (some (.int 0)) h2) else (Q (some (.int 1)) h2)))
set_option maxRecDepth 100000 in
set_option maxHeartbeats 4000000 in
theorem bl_X6_isState_0 {X : aw_X} {Q : aw_R} (C : aw_C X cX6_isState RX6 2 1) (Z : aw_Z X cX6_isState (some .boolean) Q) (p0 : Nat) (x1 : Int32) (h : aw_H) (hh : sm_X6_isState_0  Q p0 x1 h) : Sat X 0 [.ref p0, .int x1] [] h := by
  unfold sm_X6_isState_0 at hh
  refine ow_iload_n C dX6_isState_0 rfl rfl ?_
  refine ow_if_lt (tgt := 19) C dX6_isState_1 (by decide) hh (fun hh => ?_) (fun hh => ?_)
  · skip
    refine ow_iconst (v := 0) C dX6_isState_19 rfl ?_
    exact ow_iret Z dX6_isState_20 (Or.inl rfl) hh
  · skip
    refine ow_iload_n C dX6_isState_4 rfl rfl ?_
    refine ow_aload_n C dX6_isState_5 rfl rfl ?_
    refine ow_getR (ci := 5) (k := 1) (T := TX6) C rfl igX6 (by decide) kw_308 dX6_isState_6 hh (fun q1 hh => ?_)
    refine ow_callV C (cv_X0_states _) (Nat.le_of_ble_eq_true rfl) kw_335 dX6_isState_9 (as := []) (st := [.int x1]) rfl rfl (Nat.le_of_ble_eq_true rfl) hh (fun r3 h2 hq => ?_)
    obtain ⟨v4, rfl, hh⟩ := sr_I_e hq
    show Sat X 12 [.ref p0, .int x1] [.int v4, .int x1] h2
    refine ow_icmp_ge (tgt := 19) C dX6_isState_12 (by decide) hh (fun hh => ?_) (fun hh => ?_)
    · skip
      refine ow_iconst (v := 0) C dX6_isState_19 rfl ?_
      exact ow_iret Z dX6_isState_20 (Or.inl rfl) hh
    · skip
      refine ow_iconst (v := 1) C dX6_isState_15 rfl ?_
      refine ow_goto (tgt := 20) C dX6_isState_16 (by decide) ?_
      exact ow_iret Z dX6_isState_20 (Or.inr rfl) hh
def tr_X6_isState : aw_T := fun as h Q => ∃ (p0 : Nat) (x1 : Int32), as = [.ref p0, .int x1] ∧ (sm_X6_isState_0  Q p0 x1 h)
theorem tq_X6_isState {p0 : Nat} {x1 : Int32} {h : aw_H} {Q : aw_R} : tr_X6_isState [.ref p0, .int x1] h Q ↔ (sm_X6_isState_0  Q p0 x1 h) := by
  constructor
  · rintro ⟨_, _, as0, hh⟩
    cases as0
    exact hh
  · intro hh
    exact ⟨_, _, rfl, hh⟩
theorem ct_X6_isState (E : aw_F) : CT E yX6_isState cX6_isState 2 (some .boolean) 1 tr_X6_isState := by
  refine ct_of (by decide) ?_
  intro X Q as h hE C Z hG
  subst hE
  obtain ⟨p0, x1, rfl, hh⟩ := hG
  refine ⟨[.ref p0, .int x1], rfl, Nat.le_of_ble_eq_true rfl, ?_⟩
  exact bl_X6_isState_0 C Z p0 x1 h hh
theorem cv_X6_isState (E : aw_F) : CV E yX6_isState cX6_isState 2 (some .boolean) 1 1 5 tr_X6_isState := ⟨ct_X6_isState E, by decide, kw_337, kw_338, kw_314, kw_336, by decide +kernel, _, _, rfl⟩
theorem dX6_does_0 : decode cX6_does 0 = .ok (.aload_n 0, 1) := by decide +kernel
theorem dX6_does_1 : decode cX6_does 1 = .ok (.iload_n 1, 1) := by decide +kernel
theorem dX6_does_2 : decode cX6_does 2 = .ok (.invokevirtual 83, 3) := by decide +kernel
theorem dX6_does_5 : decode cX6_does 5 = .ok (.ifCond .eq 11, 3) := by decide +kernel
theorem dX6_does_8 : decode cX6_does 8 = .ok (.aload_n 0, 1) := by decide +kernel
theorem dX6_does_9 : decode cX6_does 9 = .ok (.iload_n 2, 1) := by decide +kernel
theorem dX6_does_10 : decode cX6_does 10 = .ok (.invokevirtual 102, 3) := by decide +kernel
theorem dX6_does_13 : decode cX6_does 13 = .ok (.ifCond .ne 5, 3) := by decide +kernel
theorem dX6_does_16 : decode cX6_does 16 = .ok (.iconst (-1), 1) := by decide +kernel
theorem dX6_does_17 : decode cX6_does 17 = .ok (.ireturn, 1) := by decide +kernel
theorem dX6_does_18 : decode cX6_does 18 = .ok (.aload_n 0, 1) := by decide +kernel
theorem dX6_does_19 : decode cX6_does 19 = .ok (.getfield 20, 3) := by decide +kernel
theorem dX6_does_22 : decode cX6_does 22 = .ok (.getfield 87, 3) := by decide +kernel
theorem dX6_does_25 : decode cX6_does 25 = .ok (.iload_n 1, 1) := by decide +kernel
theorem dX6_does_26 : decode cX6_does 26 = .ok (.iaload, 1) := by decide +kernel
theorem dX6_does_27 : decode cX6_does 27 = .ok (.iload_n 2, 1) := by decide +kernel
theorem dX6_does_28 : decode cX6_does 28 = .ok (.invokestatic 105, 3) := by decide +kernel
theorem dX6_does_31 : decode cX6_does 31 = .ok (.ireturn, 1) := by decide +kernel
def sm_X6_does_0  (Q : aw_R) (p0 : Nat) (x1 : Int32) (x2 : Int32) (h : aw_H) : Prop :=
  sv_O h p0 5 (tr_X6_isGate [.ref p0, .int x1] h fun r2 h1 => sr_I r2 fun v3 => if v3 = 0 then (Q (some (.int ((-1)))) h1) else (sv_O h1 p0 5 (tr_X6_isState [.ref p0, .int x2] h1 fun r5 h4 => sr_I r5 fun v6 => if ¬ v6 = 0 then (sg_R h4 p0 5 1 fun q7 => sg_R h4 q7 0 2 fun q8 => sa_I h4 q8 x1 fun v9 => tr_X2_act [.int v9, .int x2] h4 fun r11 h10 => sr_I r11 fun v12 => Q (some (.int v12)) h10) else (Q (some (.int ((-1)))) h4))))
set_option maxRecDepth 100000 in
set_option maxHeartbeats 4000000 in
theorem bl_X6_does_0 {X : aw_X} {Q : aw_R} (C : aw_C X cX6_does RX6 3 3) (Z : aw_Z X cX6_does (some .int) Q) (p0 : Nat) (x1 : Int32) (x2 : Int32) (h : aw_H) (hh : sm_X6_does_0  Q p0 x1 x2 h) : Sat X 0 [.ref p0, .int x1, .int x2] [] h := by
  unfold sm_X6_does_0 at hh
  refine ow_aload_n C dX6_does_0 rfl rfl ?_
  refine ow_iload_n C dX6_does_1 rfl rfl ?_
  refine ow_callV C (cv_X6_isGate _) (Nat.le_of_ble_eq_true rfl) kw_327 dX6_does_2 (as := [.int x1]) (st := []) rfl rfl (Nat.le_of_ble_eq_true rfl) hh (fun r2 h1 hq => ?_)
  obtain ⟨v3, rfl, hh⟩ := sr_I_e hq
  show Sat X 5 [.ref p0, .int x1, .int x2] [.int v3] h1
  refine ow_if_eq (tgt := 16) C dX6_does_5 (by decide) hh (fun hh => ?_) (fun hh => ?_)
  · skip
    refine ow_iconst (v := (-1)) C dX6_does_16 rfl ?_
    exact ow_iret Z dX6_does_17 trivial hh
  · skip
    refine ow_aload_n C dX6_does_8 rfl rfl ?_
    refine ow_iload_n C dX6_does_9 rfl rfl ?_
    refine ow_callV C (cv_X6_isState _) (Nat.le_of_ble_eq_true rfl) kw_339 dX6_does_10 (as := [.int x2]) (st := []) rfl rfl (Nat.le_of_ble_eq_true rfl) hh (fun r5 h4 hq => ?_)
    obtain ⟨v6, rfl, hh⟩ := sr_I_e hq
    show Sat X 13 [.ref p0, .int x1, .int x2] [.int v6] h4
    refine ow_if_ne (tgt := 18) C dX6_does_13 (by decide) hh (fun hh => ?_) (fun hh => ?_)
    · skip
      refine ow_aload_n C dX6_does_18 rfl rfl ?_
      refine ow_getR (ci := 5) (k := 1) (T := TX6) C rfl igX6 (by decide) kw_308 dX6_does_19 hh (fun q7 hh => ?_)
      refine ow_getR (ci := 0) (k := 2) (T := TX0) C rfl igX0 (by decide) kw_328 dX6_does_22 hh (fun q8 hh => ?_)
      refine ow_iload_n C dX6_does_25 rfl rfl ?_
      refine ow_iaload C dX6_does_26 hh (fun v9 hh => ?_)
      refine ow_iload_n C dX6_does_27 rfl rfl ?_
      refine ow_callS C (cs_X2_act _) (Nat.le_of_ble_eq_true rfl) kw_340 dX6_does_28 (as := [.int v9, .int x2]) (st := []) rfl rfl (Nat.le_of_ble_eq_true rfl) hh (fun r11 h10 hq => ?_)
      obtain ⟨v12, rfl, hh⟩ := sr_I_e hq
      show Sat X 31 [.ref p0, .int x1, .int x2] [.int v12] h10
      exact ow_iret Z dX6_does_31 trivial hh
    · skip
      refine ow_iconst (v := (-1)) C dX6_does_16 rfl ?_
      exact ow_iret Z dX6_does_17 trivial hh
def tr_X6_does : aw_T := fun as h Q => ∃ (p0 : Nat) (x1 : Int32) (x2 : Int32), as = [.ref p0, .int x1, .int x2] ∧ (sm_X6_does_0  Q p0 x1 x2 h)
theorem tq_X6_does {p0 : Nat} {x1 : Int32} {x2 : Int32} {h : aw_H} {Q : aw_R} : tr_X6_does [.ref p0, .int x1, .int x2] h Q ↔ (sm_X6_does_0  Q p0 x1 x2 h) := by
  constructor
  · rintro ⟨_, _, _, as0, hh⟩
    cases as0
    exact hh
  · intro hh
    exact ⟨_, _, _, rfl, hh⟩
theorem ct_X6_does (E : aw_F) : CT E yX6_does cX6_does 3 (some .int) 3 tr_X6_does := by
  refine ct_of (by decide) ?_
  intro X Q as h hE C Z hG
  subst hE
  obtain ⟨p0, x1, x2, rfl, hh⟩ := hG
  refine ⟨[.ref p0, .int x1, .int x2], rfl, Nat.le_of_ble_eq_true rfl, ?_⟩
  exact bl_X6_does_0 C Z p0 x1 x2 h hh
theorem cv_X6_does (E : aw_F) : CV E yX6_does cX6_does 3 (some .int) 3 2 5 tr_X6_does := ⟨ct_X6_does E, by decide, kw_342, kw_343, kw_314, kw_341, by decide +kernel, _, _, rfl⟩
theorem dX6_type_0 : decode cX6_type 0 = .ok (.iload_n 1, 1) := by decide +kernel
theorem dX6_type_1 : decode cX6_type 1 = .ok (.bipush 32, 2) := by decide +kernel
theorem dX6_type_3 : decode cX6_type 3 = .ok (.if_icmp .lt 9, 3) := by decide +kernel
theorem dX6_type_6 : decode cX6_type 6 = .ok (.iload_n 1, 1) := by decide +kernel
theorem dX6_type_7 : decode cX6_type 7 = .ok (.bipush 126, 2) := by decide +kernel
theorem dX6_type_9 : decode cX6_type 9 = .ok (.if_icmp .le 5, 3) := by decide +kernel
theorem dX6_type_12 : decode cX6_type 12 = .ok (.iconst (-1), 1) := by decide +kernel
theorem dX6_type_13 : decode cX6_type 13 = .ok (.ireturn, 1) := by decide +kernel
theorem dX6_type_14 : decode cX6_type 14 = .ok (.aload_n 0, 1) := by decide +kernel
theorem dX6_type_15 : decode cX6_type 15 = .ok (.getfield 42, 3) := by decide +kernel
theorem dX6_type_18 : decode cX6_type 18 = .ok (.iload_n 1, 1) := by decide +kernel
theorem dX6_type_19 : decode cX6_type 19 = .ok (.i2c, 1) := by decide +kernel
theorem dX6_type_20 : decode cX6_type 20 = .ok (.invokevirtual 108, 3) := by decide +kernel
theorem dX6_type_23 : decode cX6_type 23 = .ok (.ifCond .eq 13, 3) := by decide +kernel
theorem dX6_type_26 : decode cX6_type 26 = .ok (.aload_n 0, 1) := by decide +kernel
theorem dX6_type_27 : decode cX6_type 27 = .ok (.getfield 42, 3) := by decide +kernel
theorem dX6_type_30 : decode cX6_type 30 = .ok (.getfield 111, 3) := by decide +kernel
theorem dX6_type_33 : decode cX6_type 33 = .ok (.goto 5, 3) := by decide +kernel
theorem dX6_type_36 : decode cX6_type 36 = .ok (.bipush (-3), 2) := by decide +kernel
theorem dX6_type_38 : decode cX6_type 38 = .ok (.ireturn, 1) := by decide +kernel
def sm_X6_type_0  (Q : aw_R) (p0 : Nat) (x1 : Int32) (h : aw_H) : Prop :=
  if x1 < 32 then (Q (some (.int ((-1)))) h) else (if x1 ≤ 126 then (sg_R h p0 5 6 fun q1 => sv_O h q1 4 (tr_X5_add [.ref q1, .int ((Int32.toUInt32 x1 % 65536).toInt32)] h fun r3 h2 => sr_I r3 fun v4 => if v4 = 0 then (Q (some (.int ((-3)))) h2) else (sg_R h2 p0 5 6 fun q5 => sg_I h2 q5 4 1 fun v6 => Q (some (.int v6)) h2))) else (Q (some (.int ((-1)))) h))
set_option maxRecDepth 100000 in
set_option maxHeartbeats 4000000 in
theorem bl_X6_type_0 {X : aw_X} {Q : aw_R} (C : aw_C X cX6_type RX6 2 1) (Z : aw_Z X cX6_type (some .int) Q) (p0 : Nat) (x1 : Int32) (h : aw_H) (hh : sm_X6_type_0  Q p0 x1 h) : Sat X 0 [.ref p0, .int x1] [] h := by
  unfold sm_X6_type_0 at hh
  refine ow_iload_n C dX6_type_0 rfl rfl ?_
  refine ow_bipush (v := 32) C dX6_type_1 rfl ?_
  refine ow_icmp_lt (tgt := 12) C dX6_type_3 (by decide) hh (fun hh => ?_) (fun hh => ?_)
  · skip
    refine ow_iconst (v := (-1)) C dX6_type_12 rfl ?_
    exact ow_iret Z dX6_type_13 trivial hh
  · skip
    refine ow_iload_n C dX6_type_6 rfl rfl ?_
    refine ow_bipush (v := 126) C dX6_type_7 rfl ?_
    refine ow_icmp_le (tgt := 14) C dX6_type_9 (by decide) hh (fun hh => ?_) (fun hh => ?_)
    · skip
      refine ow_aload_n C dX6_type_14 rfl rfl ?_
      refine ow_getR (ci := 5) (k := 6) (T := TX6) C rfl igX6 (by decide) kw_344 dX6_type_15 hh (fun q1 hh => ?_)
      refine ow_iload_n C dX6_type_18 rfl rfl ?_
      refine ow_i2c C dX6_type_19 ?_
      refine ow_callV C (cv_X5_add _) (Nat.le_of_ble_eq_true rfl) kw_345 dX6_type_20 (as := [.int ((Int32.toUInt32 x1 % 65536).toInt32)]) (st := []) rfl rfl (Nat.le_of_ble_eq_true rfl) hh (fun r3 h2 hq => ?_)
      obtain ⟨v4, rfl, hh⟩ := sr_I_e hq
      show Sat X 23 [.ref p0, .int x1] [.int v4] h2
      refine ow_if_eq (tgt := 36) C dX6_type_23 (by decide) hh (fun hh => ?_) (fun hh => ?_)
      · skip
        refine ow_bipush (v := (-3)) C dX6_type_36 rfl ?_
        exact ow_iret Z dX6_type_38 trivial hh
      · skip
        refine ow_aload_n C dX6_type_26 rfl rfl ?_
        refine ow_getR (ci := 5) (k := 6) (T := TX6) C rfl igX6 (by decide) kw_344 dX6_type_27 hh (fun q5 hh => ?_)
        refine ow_getI (ci := 4) (k := 1) (T := TX5) C rfl igX5 (by decide) kw_346 dX6_type_30 hh (fun v6 hh => ?_)
        refine ow_goto (tgt := 38) C dX6_type_33 (by decide) ?_
        exact ow_iret Z dX6_type_38 trivial hh
    · skip
      refine ow_iconst (v := (-1)) C dX6_type_12 rfl ?_
      exact ow_iret Z dX6_type_13 trivial hh
def tr_X6_type : aw_T := fun as h Q => ∃ (p0 : Nat) (x1 : Int32), as = [.ref p0, .int x1] ∧ (sm_X6_type_0  Q p0 x1 h)
theorem tq_X6_type {p0 : Nat} {x1 : Int32} {h : aw_H} {Q : aw_R} : tr_X6_type [.ref p0, .int x1] h Q ↔ (sm_X6_type_0  Q p0 x1 h) := by
  constructor
  · rintro ⟨_, _, as0, hh⟩
    cases as0
    exact hh
  · intro hh
    exact ⟨_, _, rfl, hh⟩
theorem ct_X6_type (E : aw_F) : CT E yX6_type cX6_type 2 (some .int) 1 tr_X6_type := by
  refine ct_of (by decide) ?_
  intro X Q as h hE C Z hG
  subst hE
  obtain ⟨p0, x1, rfl, hh⟩ := hG
  refine ⟨[.ref p0, .int x1], rfl, Nat.le_of_ble_eq_true rfl, ?_⟩
  exact bl_X6_type_0 C Z p0 x1 h hh
theorem cv_X6_type (E : aw_F) : CV E yX6_type cX6_type 2 (some .int) 1 1 5 tr_X6_type := ⟨ct_X6_type E, by decide, kw_348, kw_349, kw_314, kw_347, by decide +kernel, _, _, rfl⟩
theorem dX6_circuit_0 : decode cX6_circuit 0 = .ok (.aload_n 0, 1) := by decide +kernel
theorem dX6_circuit_1 : decode cX6_circuit 1 = .ok (.getfield 42, 3) := by decide +kernel
theorem dX6_circuit_4 : decode cX6_circuit 4 = .ok (.aload_n 0, 1) := by decide +kernel
theorem dX6_circuit_5 : decode cX6_circuit 5 = .ok (.getfield 46, 3) := by decide +kernel
theorem dX6_circuit_8 : decode cX6_circuit 8 = .ok (.invokevirtual 114, 3) := by decide +kernel
theorem dX6_circuit_11 : decode cX6_circuit 11 = .ok (.istore_n 1, 1) := by decide +kernel
theorem dX6_circuit_12 : decode cX6_circuit 12 = .ok (.aload_n 0, 1) := by decide +kernel
theorem dX6_circuit_13 : decode cX6_circuit 13 = .ok (.getfield 42, 3) := by decide +kernel
theorem dX6_circuit_16 : decode cX6_circuit 16 = .ok (.iconst 0, 1) := by decide +kernel
theorem dX6_circuit_17 : decode cX6_circuit 17 = .ok (.putfield 111, 3) := by decide +kernel
theorem dX6_circuit_20 : decode cX6_circuit 20 = .ok (.iload_n 1, 1) := by decide +kernel
theorem dX6_circuit_21 : decode cX6_circuit 21 = .ok (.ifCond .ne 14, 3) := by decide +kernel
theorem dX6_circuit_24 : decode cX6_circuit 24 = .ok (.bipush (-20), 2) := by decide +kernel
theorem dX6_circuit_26 : decode cX6_circuit 26 = .ok (.aload_n 0, 1) := by decide +kernel
theorem dX6_circuit_27 : decode cX6_circuit 27 = .ok (.getfield 42, 3) := by decide +kernel
theorem dX6_circuit_30 : decode cX6_circuit 30 = .ok (.getfield 118, 3) := by decide +kernel
theorem dX6_circuit_33 : decode cX6_circuit 33 = .ok (.isub, 1) := by decide +kernel
theorem dX6_circuit_34 : decode cX6_circuit 34 = .ok (.ireturn, 1) := by decide +kernel
theorem dX6_circuit_35 : decode cX6_circuit 35 = .ok (.aload_n 0, 1) := by decide +kernel
theorem dX6_circuit_36 : decode cX6_circuit 36 = .ok (.getfield 46, 3) := by decide +kernel
theorem dX6_circuit_39 : decode cX6_circuit 39 = .ok (.aload_n 0, 1) := by decide +kernel
theorem dX6_circuit_40 : decode cX6_circuit 40 = .ok (.getfield 20, 3) := by decide +kernel
theorem dX6_circuit_43 : decode cX6_circuit 43 = .ok (.getfield 121, 3) := by decide +kernel
theorem dX6_circuit_46 : decode cX6_circuit 46 = .ok (.putfield 121, 3) := by decide +kernel
theorem dX6_circuit_49 : decode cX6_circuit 49 = .ok (.aload_n 0, 1) := by decide +kernel
theorem dX6_circuit_50 : decode cX6_circuit 50 = .ok (.getfield 20, 3) := by decide +kernel
theorem dX6_circuit_53 : decode cX6_circuit 53 = .ok (.aload_n 0, 1) := by decide +kernel
theorem dX6_circuit_54 : decode cX6_circuit 54 = .ok (.getfield 46, 3) := by decide +kernel
theorem dX6_circuit_57 : decode cX6_circuit 57 = .ok (.invokevirtual 124, 3) := by decide +kernel
theorem dX6_circuit_60 : decode cX6_circuit 60 = .ok (.aload_n 0, 1) := by decide +kernel
theorem dX6_circuit_61 : decode cX6_circuit 61 = .ok (.getfield 26, 3) := by decide +kernel
theorem dX6_circuit_64 : decode cX6_circuit 64 = .ok (.invokevirtual 64, 3) := by decide +kernel
theorem dX6_circuit_67 : decode cX6_circuit 67 = .ok (.aload_n 0, 1) := by decide +kernel
theorem dX6_circuit_68 : decode cX6_circuit 68 = .ok (.getfield 20, 3) := by decide +kernel
theorem dX6_circuit_71 : decode cX6_circuit 71 = .ok (.getfield 73, 3) := by decide +kernel
theorem dX6_circuit_74 : decode cX6_circuit 74 = .ok (.ireturn, 1) := by decide +kernel
def sm_X6_circuit_0  (Q : aw_R) (p0 : Nat) (h : aw_H) : Prop :=
  sg_R h p0 5 6 fun q1 => sg_R h p0 5 7 fun q2 => sv_O h q1 4 (tr_X5_readInto [.ref q1, .ref q2] h fun r4 h3 => sr_I r4 fun v5 => sg_R h3 p0 5 6 fun q6 => sp_I h3 q6 4 1 0 fun h7 => if ¬ v5 = 0 then (sg_R h7 p0 5 7 fun q8 => sg_R h7 p0 5 1 fun q9 => sg_I h7 q9 0 5 fun v10 => sp_I h7 q8 0 5 v10 fun h11 => sg_R h11 p0 5 1 fun q12 => sg_R h11 p0 5 7 fun q13 => sv_O h11 q12 0 (tr_X0_becomes [.ref q12, .ref q13] h11 fun r15 h14 => sr_V r15 <| sg_R h14 p0 5 2 fun q16 => sv_O h14 q16 2 (tr_X3_forget [.ref q16] h14 fun r18 h17 => sr_V r18 <| sg_R h17 p0 5 1 fun q19 => sg_I h17 q19 0 1 fun v20 => Q (some (.int v20)) h17))) else (sg_R h7 p0 5 6 fun q21 => sg_I h7 q21 4 2 fun v22 => Q (some (.int (((-20)) - v22))) h7))
set_option maxRecDepth 100000 in
set_option maxHeartbeats 4000000 in
theorem bl_X6_circuit_0 {X : aw_X} {Q : aw_R} (C : aw_C X cX6_circuit RX6 2 5) (Z : aw_Z X cX6_circuit (some .int) Q) (p0 : Nat) (h : aw_H) (hh : sm_X6_circuit_0  Q p0 h) : Sat X 0 [.ref p0, Value.null] [] h := by
  unfold sm_X6_circuit_0 at hh
  refine ow_aload_n C dX6_circuit_0 rfl rfl ?_
  refine ow_getR (ci := 5) (k := 6) (T := TX6) C rfl igX6 (by decide) kw_344 dX6_circuit_1 hh (fun q1 hh => ?_)
  refine ow_aload_n C dX6_circuit_4 rfl rfl ?_
  refine ow_getR (ci := 5) (k := 7) (T := TX6) C rfl igX6 (by decide) kw_350 dX6_circuit_5 hh (fun q2 hh => ?_)
  refine ow_callV C (cv_X5_readInto _) (Nat.le_of_ble_eq_true rfl) kw_351 dX6_circuit_8 (as := [.ref q2]) (st := []) rfl rfl (Nat.le_of_ble_eq_true rfl) hh (fun r4 h3 hq => ?_)
  obtain ⟨v5, rfl, hh⟩ := sr_I_e hq
  show Sat X 11 [.ref p0, Value.null] [.int v5] h3
  refine ow_istore_n (L' := [.ref p0, .int v5]) C dX6_circuit_11 rfl (by decide) rfl ?_
  refine ow_aload_n C dX6_circuit_12 rfl rfl ?_
  refine ow_getR (ci := 5) (k := 6) (T := TX6) C rfl igX6 (by decide) kw_344 dX6_circuit_13 hh (fun q6 hh => ?_)
  refine ow_iconst (v := 0) C dX6_circuit_16 rfl ?_
  refine ow_putI (ci := 4) (k := 1) (T := TX5) C rfl igX5 tyX5 tyX5_ok nmX5 (by decide) kw_346 rfl (by decide +kernel) dX6_circuit_17 hh (fun h7 hh => ?_)
  refine ow_iload_n C dX6_circuit_20 rfl rfl ?_
  refine ow_if_ne (tgt := 35) C dX6_circuit_21 (by decide) hh (fun hh => ?_) (fun hh => ?_)
  · skip
    refine ow_aload_n C dX6_circuit_35 rfl rfl ?_
    refine ow_getR (ci := 5) (k := 7) (T := TX6) C rfl igX6 (by decide) kw_350 dX6_circuit_36 hh (fun q8 hh => ?_)
    refine ow_aload_n C dX6_circuit_39 rfl rfl ?_
    refine ow_getR (ci := 5) (k := 1) (T := TX6) C rfl igX6 (by decide) kw_308 dX6_circuit_40 hh (fun q9 hh => ?_)
    refine ow_getI (ci := 0) (k := 5) (T := TX0) C rfl igX0 (by decide) kw_352 dX6_circuit_43 hh (fun v10 hh => ?_)
    refine ow_putI (ci := 0) (k := 5) (T := TX0) C rfl igX0 tyX0 tyX0_ok nmX0 (by decide) kw_352 rfl (by decide +kernel) dX6_circuit_46 hh (fun h11 hh => ?_)
    refine ow_aload_n C dX6_circuit_49 rfl rfl ?_
    refine ow_getR (ci := 5) (k := 1) (T := TX6) C rfl igX6 (by decide) kw_308 dX6_circuit_50 hh (fun q12 hh => ?_)
    refine ow_aload_n C dX6_circuit_53 rfl rfl ?_
    refine ow_getR (ci := 5) (k := 7) (T := TX6) C rfl igX6 (by decide) kw_350 dX6_circuit_54 hh (fun q13 hh => ?_)
    refine ow_callV C (cv_X0_becomes _) (Nat.le_of_ble_eq_true rfl) kw_353 dX6_circuit_57 (as := [.ref q13]) (st := []) rfl rfl (Nat.le_of_ble_eq_true rfl) hh (fun r15 h14 hq => ?_)
    obtain ⟨rfl, hh⟩ := sr_V_e hq
    show Sat X 60 [.ref p0, .int v5] [] h14
    refine ow_aload_n C dX6_circuit_60 rfl rfl ?_
    refine ow_getR (ci := 5) (k := 2) (T := TX6) C rfl igX6 (by decide) kw_311 dX6_circuit_61 hh (fun q16 hh => ?_)
    refine ow_callV C (cv_X3_forget _) (Nat.le_of_ble_eq_true rfl) kw_312 dX6_circuit_64 (as := []) (st := []) rfl rfl (Nat.le_of_ble_eq_true rfl) hh (fun r18 h17 hq => ?_)
    obtain ⟨rfl, hh⟩ := sr_V_e hq
    show Sat X 67 [.ref p0, .int v5] [] h17
    refine ow_aload_n C dX6_circuit_67 rfl rfl ?_
    refine ow_getR (ci := 5) (k := 1) (T := TX6) C rfl igX6 (by decide) kw_308 dX6_circuit_68 hh (fun q19 hh => ?_)
    refine ow_getI (ci := 0) (k := 1) (T := TX0) C rfl igX0 (by decide) kw_318 dX6_circuit_71 hh (fun v20 hh => ?_)
    exact ow_iret Z dX6_circuit_74 trivial hh
  · skip
    refine ow_bipush (v := (-20)) C dX6_circuit_24 rfl ?_
    refine ow_aload_n C dX6_circuit_26 rfl rfl ?_
    refine ow_getR (ci := 5) (k := 6) (T := TX6) C rfl igX6 (by decide) kw_344 dX6_circuit_27 hh (fun q21 hh => ?_)
    refine ow_getI (ci := 4) (k := 2) (T := TX5) C rfl igX5 (by decide) kw_354 dX6_circuit_30 hh (fun v22 hh => ?_)
    refine ow_isub C dX6_circuit_33 ?_
    exact ow_iret Z dX6_circuit_34 trivial hh
def tr_X6_circuit : aw_T := fun as h Q => ∃ (p0 : Nat), as = [.ref p0] ∧ (sm_X6_circuit_0  Q p0 h)
theorem tq_X6_circuit {p0 : Nat} {h : aw_H} {Q : aw_R} : tr_X6_circuit [.ref p0] h Q ↔ (sm_X6_circuit_0  Q p0 h) := by
  constructor
  · rintro ⟨_, as0, hh⟩
    cases as0
    exact hh
  · intro hh
    exact ⟨_, rfl, hh⟩
theorem ct_X6_circuit (E : aw_F) : CT E yX6_circuit cX6_circuit 2 (some .int) 5 tr_X6_circuit := by
  refine ct_of (by decide) ?_
  intro X Q as h hE C Z hG
  subst hE
  obtain ⟨p0, rfl, hh⟩ := hG
  refine ⟨[.ref p0, Value.null], rfl, Nat.le_of_ble_eq_true rfl, ?_⟩
  exact bl_X6_circuit_0 C Z p0 h hh
theorem cv_X6_circuit (E : aw_F) : CV E yX6_circuit cX6_circuit 2 (some .int) 5 0 5 tr_X6_circuit := ⟨ct_X6_circuit E, by decide, kw_356, kw_357, kw_314, kw_355, by decide +kernel, _, _, rfl⟩
theorem dX6_count_0 : decode cX6_count 0 = .ok (.iload_n 1, 1) := by decide +kernel
theorem dX6_count_1 : decode cX6_count 1 = .ok (.tableswitch 102 0 6 #[43, 51, 59, 67, 75, 83, 94], 43) := by decide +kernel
theorem dX6_count_44 : decode cX6_count 44 = .ok (.aload_n 0, 1) := by decide +kernel
theorem dX6_count_45 : decode cX6_count 45 = .ok (.getfield 20, 3) := by decide +kernel
theorem dX6_count_48 : decode cX6_count 48 = .ok (.getfield 56, 3) := by decide +kernel
theorem dX6_count_51 : decode cX6_count 51 = .ok (.ireturn, 1) := by decide +kernel
theorem dX6_count_52 : decode cX6_count 52 = .ok (.aload_n 0, 1) := by decide +kernel
theorem dX6_count_53 : decode cX6_count 53 = .ok (.getfield 20, 3) := by decide +kernel
theorem dX6_count_56 : decode cX6_count 56 = .ok (.getfield 73, 3) := by decide +kernel
theorem dX6_count_59 : decode cX6_count 59 = .ok (.ireturn, 1) := by decide +kernel
theorem dX6_count_60 : decode cX6_count 60 = .ok (.aload_n 0, 1) := by decide +kernel
theorem dX6_count_61 : decode cX6_count 61 = .ok (.getfield 20, 3) := by decide +kernel
theorem dX6_count_64 : decode cX6_count 64 = .ok (.getfield 128, 3) := by decide +kernel
theorem dX6_count_67 : decode cX6_count 67 = .ok (.ireturn, 1) := by decide +kernel
theorem dX6_count_68 : decode cX6_count 68 = .ok (.aload_n 0, 1) := by decide +kernel
theorem dX6_count_69 : decode cX6_count 69 = .ok (.getfield 20, 3) := by decide +kernel
theorem dX6_count_72 : decode cX6_count 72 = .ok (.getfield 131, 3) := by decide +kernel
theorem dX6_count_75 : decode cX6_count 75 = .ok (.ireturn, 1) := by decide +kernel
theorem dX6_count_76 : decode cX6_count 76 = .ok (.aload_n 0, 1) := by decide +kernel
theorem dX6_count_77 : decode cX6_count 77 = .ok (.getfield 20, 3) := by decide +kernel
theorem dX6_count_80 : decode cX6_count 80 = .ok (.invokevirtual 134, 3) := by decide +kernel
theorem dX6_count_83 : decode cX6_count 83 = .ok (.ireturn, 1) := by decide +kernel
theorem dX6_count_84 : decode cX6_count 84 = .ok (.aload_n 0, 1) := by decide +kernel
theorem dX6_count_85 : decode cX6_count 85 = .ok (.getfield 20, 3) := by decide +kernel
theorem dX6_count_88 : decode cX6_count 88 = .ok (.getfield 128, 3) := by decide +kernel
theorem dX6_count_91 : decode cX6_count 91 = .ok (.invokestatic 138, 3) := by decide +kernel
theorem dX6_count_94 : decode cX6_count 94 = .ok (.ireturn, 1) := by decide +kernel
theorem dX6_count_95 : decode cX6_count 95 = .ok (.aload_n 0, 1) := by decide +kernel
theorem dX6_count_96 : decode cX6_count 96 = .ok (.getfield 26, 3) := by decide +kernel
theorem dX6_count_99 : decode cX6_count 99 = .ok (.getfield 143, 3) := by decide +kernel
theorem dX6_count_102 : decode cX6_count 102 = .ok (.ireturn, 1) := by decide +kernel
theorem dX6_count_103 : decode cX6_count 103 = .ok (.iconst (-1), 1) := by decide +kernel
theorem dX6_count_104 : decode cX6_count 104 = .ok (.ireturn, 1) := by decide +kernel
def sm_X6_count_0  (Q : aw_R) (p0 : Nat) (x1 : Int32) (h : aw_H) : Prop :=
  if x1 = 0 then (sg_R h p0 5 1 fun q1 => sg_I h q1 0 0 fun v2 => Q (some (.int v2)) h) else if x1 = 1 then (sg_R h p0 5 1 fun q3 => sg_I h q3 0 1 fun v4 => Q (some (.int v4)) h) else if x1 = 2 then (sg_R h p0 5 1 fun q5 => sg_I h q5 0 3 fun v6 => Q (some (.int v6)) h) else if x1 = 3 then (sg_R h p0 5 1 fun q7 => sg_I h q7 0 4 fun v8 => Q (some (.int v8)) h) else if x1 = 4 then (sg_R h p0 5 1 fun q9 => sv_O h q9 0 (tr_X0_deadOnes [.ref q9] h fun r11 h10 => sr_I r11 fun v12 => Q (some (.int v12)) h10)) else if x1 = 5 then (sg_R h p0 5 1 fun q13 => sg_I h q13 0 3 fun v14 => tr_J6_bitCount_0f7a4 [.int v14] h fun r16 h15 => sr_I r16 fun v17 => Q (some (.int v17)) h15) else if x1 = 6 then (sg_R h p0 5 2 fun q18 => sg_I h q18 2 2 fun v19 => Q (some (.int v19)) h) else (Q (some (.int ((-1)))) h)
set_option maxRecDepth 100000 in
set_option maxHeartbeats 4000000 in
theorem bl_X6_count_0 {X : aw_X} {Q : aw_R} (C : aw_C X cX6_count RX6 2 2) (Z : aw_Z X cX6_count (some .int) Q) (p0 : Nat) (x1 : Int32) (h : aw_H) (hh : sm_X6_count_0  Q p0 x1 h) : Sat X 0 [.ref p0, .int x1] [] h := by
  unfold sm_X6_count_0 at hh
  refine ow_iload_n C dX6_count_0 rfl rfl ?_
  rcases if_e hh with ⟨hc0, hh⟩ | ⟨hc0, hh⟩
  · refine ow_tableIn (tgt := 44) (v := 0) C dX6_count_1 hc0 (by decide) (by decide) rfl (by decide) ?_
    refine ow_aload_n C dX6_count_44 rfl rfl ?_
    refine ow_getR (ci := 5) (k := 1) (T := TX6) C rfl igX6 (by decide) kw_308 dX6_count_45 hh (fun q1 hh => ?_)
    refine ow_getI (ci := 0) (k := 0) (T := TX0) C rfl igX0 (by decide) kw_309 dX6_count_48 hh (fun v2 hh => ?_)
    exact ow_iret Z dX6_count_51 trivial hh
  rcases if_e hh with ⟨hc1, hh⟩ | ⟨hc1, hh⟩
  · refine ow_tableIn (tgt := 52) (v := 1) C dX6_count_1 hc1 (by decide) (by decide) rfl (by decide) ?_
    refine ow_aload_n C dX6_count_52 rfl rfl ?_
    refine ow_getR (ci := 5) (k := 1) (T := TX6) C rfl igX6 (by decide) kw_308 dX6_count_53 hh (fun q3 hh => ?_)
    refine ow_getI (ci := 0) (k := 1) (T := TX0) C rfl igX0 (by decide) kw_318 dX6_count_56 hh (fun v4 hh => ?_)
    exact ow_iret Z dX6_count_59 trivial hh
  rcases if_e hh with ⟨hc2, hh⟩ | ⟨hc2, hh⟩
  · refine ow_tableIn (tgt := 60) (v := 2) C dX6_count_1 hc2 (by decide) (by decide) rfl (by decide) ?_
    refine ow_aload_n C dX6_count_60 rfl rfl ?_
    refine ow_getR (ci := 5) (k := 1) (T := TX6) C rfl igX6 (by decide) kw_308 dX6_count_61 hh (fun q5 hh => ?_)
    refine ow_getI (ci := 0) (k := 3) (T := TX0) C rfl igX0 (by decide) kw_358 dX6_count_64 hh (fun v6 hh => ?_)
    exact ow_iret Z dX6_count_67 trivial hh
  rcases if_e hh with ⟨hc3, hh⟩ | ⟨hc3, hh⟩
  · refine ow_tableIn (tgt := 68) (v := 3) C dX6_count_1 hc3 (by decide) (by decide) rfl (by decide) ?_
    refine ow_aload_n C dX6_count_68 rfl rfl ?_
    refine ow_getR (ci := 5) (k := 1) (T := TX6) C rfl igX6 (by decide) kw_308 dX6_count_69 hh (fun q7 hh => ?_)
    refine ow_getI (ci := 0) (k := 4) (T := TX0) C rfl igX0 (by decide) kw_359 dX6_count_72 hh (fun v8 hh => ?_)
    exact ow_iret Z dX6_count_75 trivial hh
  rcases if_e hh with ⟨hc4, hh⟩ | ⟨hc4, hh⟩
  · refine ow_tableIn (tgt := 76) (v := 4) C dX6_count_1 hc4 (by decide) (by decide) rfl (by decide) ?_
    refine ow_aload_n C dX6_count_76 rfl rfl ?_
    refine ow_getR (ci := 5) (k := 1) (T := TX6) C rfl igX6 (by decide) kw_308 dX6_count_77 hh (fun q9 hh => ?_)
    refine ow_callV C (cv_X0_deadOnes _) (Nat.le_of_ble_eq_true rfl) kw_360 dX6_count_80 (as := []) (st := []) rfl rfl (Nat.le_of_ble_eq_true rfl) hh (fun r11 h10 hq => ?_)
    obtain ⟨v12, rfl, hh⟩ := sr_I_e hq
    show Sat X 83 [.ref p0, .int x1] [.int v12] h10
    exact ow_iret Z dX6_count_83 trivial hh
  rcases if_e hh with ⟨hc5, hh⟩ | ⟨hc5, hh⟩
  · refine ow_tableIn (tgt := 84) (v := 5) C dX6_count_1 hc5 (by decide) (by decide) rfl (by decide) ?_
    refine ow_aload_n C dX6_count_84 rfl rfl ?_
    refine ow_getR (ci := 5) (k := 1) (T := TX6) C rfl igX6 (by decide) kw_308 dX6_count_85 hh (fun q13 hh => ?_)
    refine ow_getI (ci := 0) (k := 3) (T := TX0) C rfl igX0 (by decide) kw_358 dX6_count_88 hh (fun v14 hh => ?_)
    refine ow_callS C (cs_J6_bitCount_0f7a4 _) (Nat.le_of_ble_eq_true rfl) kw_361 dX6_count_91 (as := [.int v14]) (st := []) rfl rfl (Nat.le_of_ble_eq_true rfl) hh (fun r16 h15 hq => ?_)
    obtain ⟨v17, rfl, hh⟩ := sr_I_e hq
    show Sat X 94 [.ref p0, .int x1] [.int v17] h15
    exact ow_iret Z dX6_count_94 trivial hh
  rcases if_e hh with ⟨hc6, hh⟩ | ⟨hc6, hh⟩
  · refine ow_tableIn (tgt := 95) (v := 6) C dX6_count_1 hc6 (by decide) (by decide) rfl (by decide) ?_
    refine ow_aload_n C dX6_count_95 rfl rfl ?_
    refine ow_getR (ci := 5) (k := 2) (T := TX6) C rfl igX6 (by decide) kw_311 dX6_count_96 hh (fun q18 hh => ?_)
    refine ow_getI (ci := 2) (k := 2) (T := TX3) C rfl igX3 (by decide) kw_362 dX6_count_99 hh (fun v19 hh => ?_)
    exact ow_iret Z dX6_count_102 trivial hh
  refine ow_tableOut (tgt := 103) C dX6_count_1 (by have := lv_neT hc0 (a := 0) rfl; have := lv_neT hc1 (a := 1) rfl; have := lv_neT hc2 (a := 2) rfl; have := lv_neT hc3 (a := 3) rfl; have := lv_neT hc4 (a := 4) rfl; have := lv_neT hc5 (a := 5) rfl; have := lv_neT hc6 (a := 6) rfl; omega) (by decide) ?_
  refine ow_iconst (v := (-1)) C dX6_count_103 rfl ?_
  exact ow_iret Z dX6_count_104 trivial hh
def tr_X6_count : aw_T := fun as h Q => ∃ (p0 : Nat) (x1 : Int32), as = [.ref p0, .int x1] ∧ (sm_X6_count_0  Q p0 x1 h)
theorem tq_X6_count {p0 : Nat} {x1 : Int32} {h : aw_H} {Q : aw_R} : tr_X6_count [.ref p0, .int x1] h Q ↔ (sm_X6_count_0  Q p0 x1 h) := by
  constructor
  · rintro ⟨_, _, as0, hh⟩
    cases as0
    exact hh
  · intro hh
    exact ⟨_, _, rfl, hh⟩
theorem ct_X6_count (E : aw_F) : CT E yX6_count cX6_count 2 (some .int) 2 tr_X6_count := by
  refine ct_of (by decide) ?_
  intro X Q as h hE C Z hG
  subst hE
  obtain ⟨p0, x1, rfl, hh⟩ := hG
  refine ⟨[.ref p0, .int x1], rfl, Nat.le_of_ble_eq_true rfl, ?_⟩
  exact bl_X6_count_0 C Z p0 x1 h hh
theorem cv_X6_count (E : aw_F) : CV E yX6_count cX6_count 2 (some .int) 2 1 5 tr_X6_count := ⟨ct_X6_count E, by decide, kw_364, kw_365, kw_314, kw_363, by decide +kernel, _, _, rfl⟩
theorem dX6_step_0 : decode cX6_step 0 = .ok (.iload_n 1, 1) := by decide +kernel
theorem dX6_step_1 : decode cX6_step 1 = .ok (.iconst 1, 1) := by decide +kernel
theorem dX6_step_2 : decode cX6_step 2 = .ok (.if_icmp .lt 9, 3) := by decide +kernel
theorem dX6_step_5 : decode cX6_step 5 = .ok (.iload_n 1, 1) := by decide +kernel
theorem dX6_step_6 : decode cX6_step 6 = .ok (.bipush 16, 2) := by decide +kernel
theorem dX6_step_8 : decode cX6_step 8 = .ok (.if_icmp .le 5, 3) := by decide +kernel
theorem dX6_step_11 : decode cX6_step 11 = .ok (.iconst (-1), 1) := by decide +kernel
theorem dX6_step_12 : decode cX6_step 12 = .ok (.ireturn, 1) := by decide +kernel
theorem dX6_step_13 : decode cX6_step 13 = .ok (.iload_n 1, 1) := by decide +kernel
theorem dX6_step_14 : decode cX6_step 14 = .ok (.aload_n 0, 1) := by decide +kernel
theorem dX6_step_15 : decode cX6_step 15 = .ok (.getfield 20, 3) := by decide +kernel
theorem dX6_step_18 : decode cX6_step 18 = .ok (.getfield 73, 3) := by decide +kernel
theorem dX6_step_21 : decode cX6_step 21 = .ok (.aload_n 0, 1) := by decide +kernel
theorem dX6_step_22 : decode cX6_step 22 = .ok (.getfield 20, 3) := by decide +kernel
theorem dX6_step_25 : decode cX6_step 25 = .ok (.getfield 131, 3) := by decide +kernel
theorem dX6_step_28 : decode cX6_step 28 = .ok (.isub, 1) := by decide +kernel
theorem dX6_step_29 : decode cX6_step 29 = .ok (.if_icmp .le 6, 3) := by decide +kernel
theorem dX6_step_32 : decode cX6_step 32 = .ok (.bipush (-2), 2) := by decide +kernel
theorem dX6_step_34 : decode cX6_step 34 = .ok (.ireturn, 1) := by decide +kernel
theorem dX6_step_35 : decode cX6_step 35 = .ok (.iconst 0, 1) := by decide +kernel
theorem dX6_step_36 : decode cX6_step 36 = .ok (.istore_n 2, 1) := by decide +kernel
theorem dX6_step_37 : decode cX6_step 37 = .ok (.iload_n 2, 1) := by decide +kernel
theorem dX6_step_38 : decode cX6_step 38 = .ok (.iload_n 1, 1) := by decide +kernel
theorem dX6_step_39 : decode cX6_step 39 = .ok (.if_icmp .ge 27, 3) := by decide +kernel
theorem dX6_step_42 : decode cX6_step 42 = .ok (.aload_n 0, 1) := by decide +kernel
theorem dX6_step_43 : decode cX6_step 43 = .ok (.getfield 26, 3) := by decide +kernel
theorem dX6_step_46 : decode cX6_step 46 = .ok (.aload_n 0, 1) := by decide +kernel
theorem dX6_step_47 : decode cX6_step 47 = .ok (.getfield 20, 3) := by decide +kernel
theorem dX6_step_50 : decode cX6_step 50 = .ok (.invokevirtual 146, 3) := by decide +kernel
theorem dX6_step_53 : decode cX6_step 53 = .ok (.aload_n 0, 1) := by decide +kernel
theorem dX6_step_54 : decode cX6_step 54 = .ok (.getfield 20, 3) := by decide +kernel
theorem dX6_step_57 : decode cX6_step 57 = .ok (.invokevirtual 149, 3) := by decide +kernel
theorem dX6_step_60 : decode cX6_step 60 = .ok (.iinc 2 1, 3) := by decide +kernel
theorem dX6_step_63 : decode cX6_step 63 = .ok (.goto (-26), 3) := by decide +kernel
theorem dX6_step_66 : decode cX6_step 66 = .ok (.aload_n 0, 1) := by decide +kernel
theorem dX6_step_67 : decode cX6_step 67 = .ok (.getfield 20, 3) := by decide +kernel
theorem dX6_step_70 : decode cX6_step 70 = .ok (.getfield 128, 3) := by decide +kernel
theorem dX6_step_73 : decode cX6_step 73 = .ok (.ireturn, 1) := by decide +kernel
def sm_X6_step_37 (K37 : Nat → Int32 → Int32 → aw_H → Prop) (Q : aw_R) (p0 : Nat) (x1 : Int32) (x2 : Int32) (h : aw_H) : Prop :=
  if x1 ≤ x2 then (sg_R h p0 5 1 fun q1 => sg_I h q1 0 3 fun v2 => Q (some (.int v2)) h) else (sg_R h p0 5 2 fun q3 => sg_R h p0 5 1 fun q4 => sv_O h q3 2 (tr_X3_keep [.ref q3, .ref q4] h fun r6 h5 => sr_V r6 <| sg_R h5 p0 5 1 fun q7 => sv_O h5 q7 0 (tr_X0_stepOn [.ref q7] h5 fun r9 h8 => sr_V r9 <| K37 p0 x1 (x2 + 1) h8)))
set_option maxRecDepth 100000 in
set_option maxHeartbeats 4000000 in
theorem bl_X6_step_37 {X : aw_X} {Q : aw_R} (C : aw_C X cX6_step RX6 3 4) (Z : aw_Z X cX6_step (some .int) Q) (p0 : Nat) (x1 : Int32) (x2 : Int32) (h : aw_H) (hh : sm_X6_step_37 (fun (p0 : Nat) (x1 : Int32) (x2 : Int32) (h : aw_H) => Sat X 37 [.ref p0, .int x1, .int x2] [] h) Q p0 x1 x2 h) : Sat X 37 [.ref p0, .int x1, .int x2] [] h := by
  unfold sm_X6_step_37 at hh
  refine ow_iload_n C dX6_step_37 rfl rfl ?_
  refine ow_iload_n C dX6_step_38 rfl rfl ?_
  refine ow_icmp_ge (tgt := 66) C dX6_step_39 (by decide) hh (fun hh => ?_) (fun hh => ?_)
  · skip
    refine ow_aload_n C dX6_step_66 rfl rfl ?_
    refine ow_getR (ci := 5) (k := 1) (T := TX6) C rfl igX6 (by decide) kw_308 dX6_step_67 hh (fun q1 hh => ?_)
    refine ow_getI (ci := 0) (k := 3) (T := TX0) C rfl igX0 (by decide) kw_358 dX6_step_70 hh (fun v2 hh => ?_)
    exact ow_iret Z dX6_step_73 trivial hh
  · skip
    refine ow_aload_n C dX6_step_42 rfl rfl ?_
    refine ow_getR (ci := 5) (k := 2) (T := TX6) C rfl igX6 (by decide) kw_311 dX6_step_43 hh (fun q3 hh => ?_)
    refine ow_aload_n C dX6_step_46 rfl rfl ?_
    refine ow_getR (ci := 5) (k := 1) (T := TX6) C rfl igX6 (by decide) kw_308 dX6_step_47 hh (fun q4 hh => ?_)
    refine ow_callV C (cv_X3_keep _) (Nat.le_of_ble_eq_true rfl) kw_366 dX6_step_50 (as := [.ref q4]) (st := []) rfl rfl (Nat.le_of_ble_eq_true rfl) hh (fun r6 h5 hq => ?_)
    obtain ⟨rfl, hh⟩ := sr_V_e hq
    show Sat X 53 [.ref p0, .int x1, .int x2] [] h5
    refine ow_aload_n C dX6_step_53 rfl rfl ?_
    refine ow_getR (ci := 5) (k := 1) (T := TX6) C rfl igX6 (by decide) kw_308 dX6_step_54 hh (fun q7 hh => ?_)
    refine ow_callV C (cv_X0_stepOn _) (Nat.le_of_ble_eq_true rfl) kw_367 dX6_step_57 (as := []) (st := []) rfl rfl (Nat.le_of_ble_eq_true rfl) hh (fun r9 h8 hq => ?_)
    obtain ⟨rfl, hh⟩ := sr_V_e hq
    show Sat X 60 [.ref p0, .int x1, .int x2] [] h8
    refine ow_iinc (v := x2 + 1) (L' := [.ref p0, .int x1, .int (x2 + 1)]) C dX6_step_60 rfl rfl (by decide) rfl ?_
    refine ow_goto (tgt := 37) C dX6_step_63 (by decide) ?_
    exact Sat.mask hh (mk_y (mk_y (mk_y mk_0)))
def sm_X6_step_0 (K37 : Nat → Int32 → Int32 → aw_H → Prop) (Q : aw_R) (p0 : Nat) (x1 : Int32) (h : aw_H) : Prop :=
  if x1 < 1 then (Q (some (.int ((-1)))) h) else (if x1 ≤ 16 then (sg_R h p0 5 1 fun q1 => sg_I h q1 0 1 fun v2 => sg_R h p0 5 1 fun q3 => sg_I h q3 0 4 fun v4 => if x1 ≤ (v2 - v4) then (K37 p0 x1 0 h) else (Q (some (.int ((-2)))) h)) else (Q (some (.int ((-1)))) h))
set_option maxRecDepth 100000 in
set_option maxHeartbeats 4000000 in
theorem bl_X6_step_0 {X : aw_X} {Q : aw_R} (C : aw_C X cX6_step RX6 3 4) (Z : aw_Z X cX6_step (some .int) Q) (p0 : Nat) (x1 : Int32) (h : aw_H) (hh : sm_X6_step_0 (fun (p0 : Nat) (x1 : Int32) (x2 : Int32) (h : aw_H) => Sat X 37 [.ref p0, .int x1, .int x2] [] h) Q p0 x1 h) : Sat X 0 [.ref p0, .int x1, Value.null] [] h := by
  unfold sm_X6_step_0 at hh
  refine ow_iload_n C dX6_step_0 rfl rfl ?_
  refine ow_iconst (v := 1) C dX6_step_1 rfl ?_
  refine ow_icmp_lt (tgt := 11) C dX6_step_2 (by decide) hh (fun hh => ?_) (fun hh => ?_)
  · skip
    refine ow_iconst (v := (-1)) C dX6_step_11 rfl ?_
    exact ow_iret Z dX6_step_12 trivial hh
  · skip
    refine ow_iload_n C dX6_step_5 rfl rfl ?_
    refine ow_bipush (v := 16) C dX6_step_6 rfl ?_
    refine ow_icmp_le (tgt := 13) C dX6_step_8 (by decide) hh (fun hh => ?_) (fun hh => ?_)
    · skip
      refine ow_iload_n C dX6_step_13 rfl rfl ?_
      refine ow_aload_n C dX6_step_14 rfl rfl ?_
      refine ow_getR (ci := 5) (k := 1) (T := TX6) C rfl igX6 (by decide) kw_308 dX6_step_15 hh (fun q1 hh => ?_)
      refine ow_getI (ci := 0) (k := 1) (T := TX0) C rfl igX0 (by decide) kw_318 dX6_step_18 hh (fun v2 hh => ?_)
      refine ow_aload_n C dX6_step_21 rfl rfl ?_
      refine ow_getR (ci := 5) (k := 1) (T := TX6) C rfl igX6 (by decide) kw_308 dX6_step_22 hh (fun q3 hh => ?_)
      refine ow_getI (ci := 0) (k := 4) (T := TX0) C rfl igX0 (by decide) kw_359 dX6_step_25 hh (fun v4 hh => ?_)
      refine ow_isub C dX6_step_28 ?_
      refine ow_icmp_le (tgt := 35) C dX6_step_29 (by decide) hh (fun hh => ?_) (fun hh => ?_)
      · skip
        refine ow_iconst (v := 0) C dX6_step_35 rfl ?_
        refine ow_istore_n (L' := [.ref p0, .int x1, .int 0]) C dX6_step_36 rfl (by decide) rfl ?_
        exact Sat.mask hh (mk_y (mk_y (mk_y mk_0)))
      · skip
        refine ow_bipush (v := (-2)) C dX6_step_32 rfl ?_
        exact ow_iret Z dX6_step_34 trivial hh
    · skip
      refine ow_iconst (v := (-1)) C dX6_step_11 rfl ?_
      exact ow_iret Z dX6_step_12 trivial hh
def tr_X6_step : aw_T := fun as h Q => ∃ (p0 : Nat) (x1 : Int32), as = [.ref p0, .int x1] ∧ (∀ (K37 : Nat → Int32 → Int32 → aw_H → Prop), (∀ (p0 : Nat) (x1 : Int32) (x2 : Int32) (h : aw_H), sm_X6_step_37 K37 Q p0 x1 x2 h → K37 p0 x1 x2 h) → sm_X6_step_0 K37 Q p0 x1 h)
theorem tq_X6_step {p0 : Nat} {x1 : Int32} {h : aw_H} {Q : aw_R} : tr_X6_step [.ref p0, .int x1] h Q ↔ (∀ (K37 : Nat → Int32 → Int32 → aw_H → Prop), (∀ (p0 : Nat) (x1 : Int32) (x2 : Int32) (h : aw_H), sm_X6_step_37 K37 Q p0 x1 x2 h → K37 p0 x1 x2 h) → sm_X6_step_0 K37 Q p0 x1 h) := by
  constructor
  · rintro ⟨_, _, as0, hh⟩
    cases as0
    exact hh
  · intro hh
    exact ⟨_, _, rfl, hh⟩
theorem ct_X6_step (E : aw_F) : CT E yX6_step cX6_step 3 (some .int) 4 tr_X6_step := by
  refine ct_of (by decide) ?_
  intro X Q as h hE C Z hG
  subst hE
  obtain ⟨p0, x1, rfl, hh⟩ := hG
  refine ⟨[.ref p0, .int x1, Value.null], rfl, Nat.le_of_ble_eq_true rfl, ?_⟩
  exact bl_X6_step_0 C Z p0 x1 h (hh (fun (p0 : Nat) (x1 : Int32) (x2 : Int32) (h : aw_H) => Sat X 37 [.ref p0, .int x1, .int x2] [] h) (fun p0 x1 x2 h hh => bl_X6_step_37 C Z p0 x1 x2 h hh))
theorem cv_X6_step (E : aw_F) : CV E yX6_step cX6_step 3 (some .int) 4 1 5 tr_X6_step := ⟨ct_X6_step E, by decide, kw_369, kw_370, kw_314, kw_368, by decide +kernel, _, _, rfl⟩
theorem dX6_back_0 : decode cX6_back 0 = .ok (.iload_n 1, 1) := by decide +kernel
theorem dX6_back_1 : decode cX6_back 1 = .ok (.iconst 1, 1) := by decide +kernel
theorem dX6_back_2 : decode cX6_back 2 = .ok (.if_icmp .lt 9, 3) := by decide +kernel
theorem dX6_back_5 : decode cX6_back 5 = .ok (.iload_n 1, 1) := by decide +kernel
theorem dX6_back_6 : decode cX6_back 6 = .ok (.bipush 16, 2) := by decide +kernel
theorem dX6_back_8 : decode cX6_back 8 = .ok (.if_icmp .le 5, 3) := by decide +kernel
theorem dX6_back_11 : decode cX6_back 11 = .ok (.iconst (-1), 1) := by decide +kernel
theorem dX6_back_12 : decode cX6_back 12 = .ok (.ireturn, 1) := by decide +kernel
theorem dX6_back_13 : decode cX6_back 13 = .ok (.iload_n 1, 1) := by decide +kernel
theorem dX6_back_14 : decode cX6_back 14 = .ok (.aload_n 0, 1) := by decide +kernel
theorem dX6_back_15 : decode cX6_back 15 = .ok (.getfield 20, 3) := by decide +kernel
theorem dX6_back_18 : decode cX6_back 18 = .ok (.getfield 131, 3) := by decide +kernel
theorem dX6_back_21 : decode cX6_back 21 = .ok (.if_icmp .le 6, 3) := by decide +kernel
theorem dX6_back_24 : decode cX6_back 24 = .ok (.bipush (-2), 2) := by decide +kernel
theorem dX6_back_26 : decode cX6_back 26 = .ok (.ireturn, 1) := by decide +kernel
theorem dX6_back_27 : decode cX6_back 27 = .ok (.iconst 0, 1) := by decide +kernel
theorem dX6_back_28 : decode cX6_back 28 = .ok (.istore_n 2, 1) := by decide +kernel
theorem dX6_back_29 : decode cX6_back 29 = .ok (.iload_n 2, 1) := by decide +kernel
theorem dX6_back_30 : decode cX6_back 30 = .ok (.iload_n 1, 1) := by decide +kernel
theorem dX6_back_31 : decode cX6_back 31 = .ok (.if_icmp .ge 27, 3) := by decide +kernel
theorem dX6_back_34 : decode cX6_back 34 = .ok (.aload_n 0, 1) := by decide +kernel
theorem dX6_back_35 : decode cX6_back 35 = .ok (.getfield 26, 3) := by decide +kernel
theorem dX6_back_38 : decode cX6_back 38 = .ok (.aload_n 0, 1) := by decide +kernel
theorem dX6_back_39 : decode cX6_back 39 = .ok (.getfield 20, 3) := by decide +kernel
theorem dX6_back_42 : decode cX6_back 42 = .ok (.invokevirtual 146, 3) := by decide +kernel
theorem dX6_back_45 : decode cX6_back 45 = .ok (.aload_n 0, 1) := by decide +kernel
theorem dX6_back_46 : decode cX6_back 46 = .ok (.getfield 20, 3) := by decide +kernel
theorem dX6_back_49 : decode cX6_back 49 = .ok (.invokevirtual 152, 3) := by decide +kernel
theorem dX6_back_52 : decode cX6_back 52 = .ok (.iinc 2 1, 3) := by decide +kernel
theorem dX6_back_55 : decode cX6_back 55 = .ok (.goto (-26), 3) := by decide +kernel
theorem dX6_back_58 : decode cX6_back 58 = .ok (.aload_n 0, 1) := by decide +kernel
theorem dX6_back_59 : decode cX6_back 59 = .ok (.getfield 20, 3) := by decide +kernel
theorem dX6_back_62 : decode cX6_back 62 = .ok (.getfield 128, 3) := by decide +kernel
theorem dX6_back_65 : decode cX6_back 65 = .ok (.ireturn, 1) := by decide +kernel
def sm_X6_back_29 (K29 : Nat → Int32 → Int32 → aw_H → Prop) (Q : aw_R) (p0 : Nat) (x1 : Int32) (x2 : Int32) (h : aw_H) : Prop :=
  if x1 ≤ x2 then (sg_R h p0 5 1 fun q1 => sg_I h q1 0 3 fun v2 => Q (some (.int v2)) h) else (sg_R h p0 5 2 fun q3 => sg_R h p0 5 1 fun q4 => sv_O h q3 2 (tr_X3_keep [.ref q3, .ref q4] h fun r6 h5 => sr_V r6 <| sg_R h5 p0 5 1 fun q7 => sv_O h5 q7 0 (tr_X0_stepBack [.ref q7] h5 fun r9 h8 => sr_V r9 <| K29 p0 x1 (x2 + 1) h8)))
set_option maxRecDepth 100000 in
set_option maxHeartbeats 4000000 in
theorem bl_X6_back_29 {X : aw_X} {Q : aw_R} (C : aw_C X cX6_back RX6 3 4) (Z : aw_Z X cX6_back (some .int) Q) (p0 : Nat) (x1 : Int32) (x2 : Int32) (h : aw_H) (hh : sm_X6_back_29 (fun (p0 : Nat) (x1 : Int32) (x2 : Int32) (h : aw_H) => Sat X 29 [.ref p0, .int x1, .int x2] [] h) Q p0 x1 x2 h) : Sat X 29 [.ref p0, .int x1, .int x2] [] h := by
  unfold sm_X6_back_29 at hh
  refine ow_iload_n C dX6_back_29 rfl rfl ?_
  refine ow_iload_n C dX6_back_30 rfl rfl ?_
  refine ow_icmp_ge (tgt := 58) C dX6_back_31 (by decide) hh (fun hh => ?_) (fun hh => ?_)
  · skip
    refine ow_aload_n C dX6_back_58 rfl rfl ?_
    refine ow_getR (ci := 5) (k := 1) (T := TX6) C rfl igX6 (by decide) kw_308 dX6_back_59 hh (fun q1 hh => ?_)
    refine ow_getI (ci := 0) (k := 3) (T := TX0) C rfl igX0 (by decide) kw_358 dX6_back_62 hh (fun v2 hh => ?_)
    exact ow_iret Z dX6_back_65 trivial hh
  · skip
    refine ow_aload_n C dX6_back_34 rfl rfl ?_
    refine ow_getR (ci := 5) (k := 2) (T := TX6) C rfl igX6 (by decide) kw_311 dX6_back_35 hh (fun q3 hh => ?_)
    refine ow_aload_n C dX6_back_38 rfl rfl ?_
    refine ow_getR (ci := 5) (k := 1) (T := TX6) C rfl igX6 (by decide) kw_308 dX6_back_39 hh (fun q4 hh => ?_)
    refine ow_callV C (cv_X3_keep _) (Nat.le_of_ble_eq_true rfl) kw_366 dX6_back_42 (as := [.ref q4]) (st := []) rfl rfl (Nat.le_of_ble_eq_true rfl) hh (fun r6 h5 hq => ?_)
    obtain ⟨rfl, hh⟩ := sr_V_e hq
    show Sat X 45 [.ref p0, .int x1, .int x2] [] h5
    refine ow_aload_n C dX6_back_45 rfl rfl ?_
    refine ow_getR (ci := 5) (k := 1) (T := TX6) C rfl igX6 (by decide) kw_308 dX6_back_46 hh (fun q7 hh => ?_)
    refine ow_callV C (cv_X0_stepBack _) (Nat.le_of_ble_eq_true rfl) kw_371 dX6_back_49 (as := []) (st := []) rfl rfl (Nat.le_of_ble_eq_true rfl) hh (fun r9 h8 hq => ?_)
    obtain ⟨rfl, hh⟩ := sr_V_e hq
    show Sat X 52 [.ref p0, .int x1, .int x2] [] h8
    refine ow_iinc (v := x2 + 1) (L' := [.ref p0, .int x1, .int (x2 + 1)]) C dX6_back_52 rfl rfl (by decide) rfl ?_
    refine ow_goto (tgt := 29) C dX6_back_55 (by decide) ?_
    exact Sat.mask hh (mk_y (mk_y (mk_y mk_0)))
def sm_X6_back_0 (K29 : Nat → Int32 → Int32 → aw_H → Prop) (Q : aw_R) (p0 : Nat) (x1 : Int32) (h : aw_H) : Prop :=
  if x1 < 1 then (Q (some (.int ((-1)))) h) else (if x1 ≤ 16 then (sg_R h p0 5 1 fun q1 => sg_I h q1 0 4 fun v2 => if x1 ≤ v2 then (K29 p0 x1 0 h) else (Q (some (.int ((-2)))) h)) else (Q (some (.int ((-1)))) h))
set_option maxRecDepth 100000 in
set_option maxHeartbeats 4000000 in
theorem bl_X6_back_0 {X : aw_X} {Q : aw_R} (C : aw_C X cX6_back RX6 3 4) (Z : aw_Z X cX6_back (some .int) Q) (p0 : Nat) (x1 : Int32) (h : aw_H) (hh : sm_X6_back_0 (fun (p0 : Nat) (x1 : Int32) (x2 : Int32) (h : aw_H) => Sat X 29 [.ref p0, .int x1, .int x2] [] h) Q p0 x1 h) : Sat X 0 [.ref p0, .int x1, Value.null] [] h := by
  unfold sm_X6_back_0 at hh
  refine ow_iload_n C dX6_back_0 rfl rfl ?_
  refine ow_iconst (v := 1) C dX6_back_1 rfl ?_
  refine ow_icmp_lt (tgt := 11) C dX6_back_2 (by decide) hh (fun hh => ?_) (fun hh => ?_)
  · skip
    refine ow_iconst (v := (-1)) C dX6_back_11 rfl ?_
    exact ow_iret Z dX6_back_12 trivial hh
  · skip
    refine ow_iload_n C dX6_back_5 rfl rfl ?_
    refine ow_bipush (v := 16) C dX6_back_6 rfl ?_
    refine ow_icmp_le (tgt := 13) C dX6_back_8 (by decide) hh (fun hh => ?_) (fun hh => ?_)
    · skip
      refine ow_iload_n C dX6_back_13 rfl rfl ?_
      refine ow_aload_n C dX6_back_14 rfl rfl ?_
      refine ow_getR (ci := 5) (k := 1) (T := TX6) C rfl igX6 (by decide) kw_308 dX6_back_15 hh (fun q1 hh => ?_)
      refine ow_getI (ci := 0) (k := 4) (T := TX0) C rfl igX0 (by decide) kw_359 dX6_back_18 hh (fun v2 hh => ?_)
      refine ow_icmp_le (tgt := 27) C dX6_back_21 (by decide) hh (fun hh => ?_) (fun hh => ?_)
      · skip
        refine ow_iconst (v := 0) C dX6_back_27 rfl ?_
        refine ow_istore_n (L' := [.ref p0, .int x1, .int 0]) C dX6_back_28 rfl (by decide) rfl ?_
        exact Sat.mask hh (mk_y (mk_y (mk_y mk_0)))
      · skip
        refine ow_bipush (v := (-2)) C dX6_back_24 rfl ?_
        exact ow_iret Z dX6_back_26 trivial hh
    · skip
      refine ow_iconst (v := (-1)) C dX6_back_11 rfl ?_
      exact ow_iret Z dX6_back_12 trivial hh
def tr_X6_back : aw_T := fun as h Q => ∃ (p0 : Nat) (x1 : Int32), as = [.ref p0, .int x1] ∧ (∀ (K29 : Nat → Int32 → Int32 → aw_H → Prop), (∀ (p0 : Nat) (x1 : Int32) (x2 : Int32) (h : aw_H), sm_X6_back_29 K29 Q p0 x1 x2 h → K29 p0 x1 x2 h) → sm_X6_back_0 K29 Q p0 x1 h)
theorem tq_X6_back {p0 : Nat} {x1 : Int32} {h : aw_H} {Q : aw_R} : tr_X6_back [.ref p0, .int x1] h Q ↔ (∀ (K29 : Nat → Int32 → Int32 → aw_H → Prop), (∀ (p0 : Nat) (x1 : Int32) (x2 : Int32) (h : aw_H), sm_X6_back_29 K29 Q p0 x1 x2 h → K29 p0 x1 x2 h) → sm_X6_back_0 K29 Q p0 x1 h) := by
  constructor
  · rintro ⟨_, _, as0, hh⟩
    cases as0
    exact hh
  · intro hh
    exact ⟨_, _, rfl, hh⟩
theorem ct_X6_back (E : aw_F) : CT E yX6_back cX6_back 3 (some .int) 4 tr_X6_back := by
  refine ct_of (by decide) ?_
  intro X Q as h hE C Z hG
  subst hE
  obtain ⟨p0, x1, rfl, hh⟩ := hG
  refine ⟨[.ref p0, .int x1, Value.null], rfl, Nat.le_of_ble_eq_true rfl, ?_⟩
  exact bl_X6_back_0 C Z p0 x1 h (hh (fun (p0 : Nat) (x1 : Int32) (x2 : Int32) (h : aw_H) => Sat X 29 [.ref p0, .int x1, .int x2] [] h) (fun p0 x1 x2 h hh => bl_X6_back_29 C Z p0 x1 x2 h hh))
theorem cv_X6_back (E : aw_F) : CV E yX6_back cX6_back 3 (some .int) 4 1 5 tr_X6_back := ⟨ct_X6_back E, by decide, kw_373, kw_374, kw_314, kw_372, by decide +kernel, _, _, rfl⟩
theorem dX6_home_0 : decode cX6_home 0 = .ok (.aload_n 0, 1) := by decide +kernel
theorem dX6_home_1 : decode cX6_home 1 = .ok (.getfield 20, 3) := by decide +kernel
theorem dX6_home_4 : decode cX6_home 4 = .ok (.getfield 131, 3) := by decide +kernel
theorem dX6_home_7 : decode cX6_home 7 = .ok (.ifCond .ne 6, 3) := by decide +kernel
theorem dX6_home_10 : decode cX6_home 10 = .ok (.bipush (-2), 2) := by decide +kernel
theorem dX6_home_12 : decode cX6_home 12 = .ok (.ireturn, 1) := by decide +kernel
theorem dX6_home_13 : decode cX6_home 13 = .ok (.aload_n 0, 1) := by decide +kernel
theorem dX6_home_14 : decode cX6_home 14 = .ok (.getfield 20, 3) := by decide +kernel
theorem dX6_home_17 : decode cX6_home 17 = .ok (.getfield 131, 3) := by decide +kernel
theorem dX6_home_20 : decode cX6_home 20 = .ok (.istore_n 1, 1) := by decide +kernel
theorem dX6_home_21 : decode cX6_home 21 = .ok (.aload_n 0, 1) := by decide +kernel
theorem dX6_home_22 : decode cX6_home 22 = .ok (.getfield 26, 3) := by decide +kernel
theorem dX6_home_25 : decode cX6_home 25 = .ok (.aload_n 0, 1) := by decide +kernel
theorem dX6_home_26 : decode cX6_home 26 = .ok (.getfield 20, 3) := by decide +kernel
theorem dX6_home_29 : decode cX6_home 29 = .ok (.invokevirtual 146, 3) := by decide +kernel
theorem dX6_home_32 : decode cX6_home 32 = .ok (.aload_n 0, 1) := by decide +kernel
theorem dX6_home_33 : decode cX6_home 33 = .ok (.getfield 20, 3) := by decide +kernel
theorem dX6_home_36 : decode cX6_home 36 = .ok (.iconst 0, 1) := by decide +kernel
theorem dX6_home_37 : decode cX6_home 37 = .ok (.putfield 131, 3) := by decide +kernel
theorem dX6_home_40 : decode cX6_home 40 = .ok (.iload_n 1, 1) := by decide +kernel
theorem dX6_home_41 : decode cX6_home 41 = .ok (.ireturn, 1) := by decide +kernel
def sm_X6_home_0  (Q : aw_R) (p0 : Nat) (h : aw_H) : Prop :=
  sg_R h p0 5 1 fun q1 => sg_I h q1 0 4 fun v2 => if ¬ v2 = 0 then (sg_R h p0 5 1 fun q3 => sg_I h q3 0 4 fun v4 => sg_R h p0 5 2 fun q5 => sg_R h p0 5 1 fun q6 => sv_O h q5 2 (tr_X3_keep [.ref q5, .ref q6] h fun r8 h7 => sr_V r8 <| sg_R h7 p0 5 1 fun q9 => sp_I h7 q9 0 4 0 fun h10 => Q (some (.int v4)) h10)) else (Q (some (.int ((-2)))) h)
set_option maxRecDepth 100000 in
set_option maxHeartbeats 4000000 in
theorem bl_X6_home_0 {X : aw_X} {Q : aw_R} (C : aw_C X cX6_home RX6 2 3) (Z : aw_Z X cX6_home (some .int) Q) (p0 : Nat) (h : aw_H) (hh : sm_X6_home_0  Q p0 h) : Sat X 0 [.ref p0, Value.null] [] h := by
  unfold sm_X6_home_0 at hh
  refine ow_aload_n C dX6_home_0 rfl rfl ?_
  refine ow_getR (ci := 5) (k := 1) (T := TX6) C rfl igX6 (by decide) kw_308 dX6_home_1 hh (fun q1 hh => ?_)
  refine ow_getI (ci := 0) (k := 4) (T := TX0) C rfl igX0 (by decide) kw_359 dX6_home_4 hh (fun v2 hh => ?_)
  refine ow_if_ne (tgt := 13) C dX6_home_7 (by decide) hh (fun hh => ?_) (fun hh => ?_)
  · skip
    refine ow_aload_n C dX6_home_13 rfl rfl ?_
    refine ow_getR (ci := 5) (k := 1) (T := TX6) C rfl igX6 (by decide) kw_308 dX6_home_14 hh (fun q3 hh => ?_)
    refine ow_getI (ci := 0) (k := 4) (T := TX0) C rfl igX0 (by decide) kw_359 dX6_home_17 hh (fun v4 hh => ?_)
    refine ow_istore_n (L' := [.ref p0, .int v4]) C dX6_home_20 rfl (by decide) rfl ?_
    refine ow_aload_n C dX6_home_21 rfl rfl ?_
    refine ow_getR (ci := 5) (k := 2) (T := TX6) C rfl igX6 (by decide) kw_311 dX6_home_22 hh (fun q5 hh => ?_)
    refine ow_aload_n C dX6_home_25 rfl rfl ?_
    refine ow_getR (ci := 5) (k := 1) (T := TX6) C rfl igX6 (by decide) kw_308 dX6_home_26 hh (fun q6 hh => ?_)
    refine ow_callV C (cv_X3_keep _) (Nat.le_of_ble_eq_true rfl) kw_366 dX6_home_29 (as := [.ref q6]) (st := []) rfl rfl (Nat.le_of_ble_eq_true rfl) hh (fun r8 h7 hq => ?_)
    obtain ⟨rfl, hh⟩ := sr_V_e hq
    show Sat X 32 [.ref p0, .int v4] [] h7
    refine ow_aload_n C dX6_home_32 rfl rfl ?_
    refine ow_getR (ci := 5) (k := 1) (T := TX6) C rfl igX6 (by decide) kw_308 dX6_home_33 hh (fun q9 hh => ?_)
    refine ow_iconst (v := 0) C dX6_home_36 rfl ?_
    refine ow_putI (ci := 0) (k := 4) (T := TX0) C rfl igX0 tyX0 tyX0_ok nmX0 (by decide) kw_359 rfl (by decide +kernel) dX6_home_37 hh (fun h10 hh => ?_)
    refine ow_iload_n C dX6_home_40 rfl rfl ?_
    exact ow_iret Z dX6_home_41 trivial hh
  · skip
    refine ow_bipush (v := (-2)) C dX6_home_10 rfl ?_
    exact ow_iret Z dX6_home_12 trivial hh
def tr_X6_home : aw_T := fun as h Q => ∃ (p0 : Nat), as = [.ref p0] ∧ (sm_X6_home_0  Q p0 h)
theorem tq_X6_home {p0 : Nat} {h : aw_H} {Q : aw_R} : tr_X6_home [.ref p0] h Q ↔ (sm_X6_home_0  Q p0 h) := by
  constructor
  · rintro ⟨_, as0, hh⟩
    cases as0
    exact hh
  · intro hh
    exact ⟨_, rfl, hh⟩
theorem ct_X6_home (E : aw_F) : CT E yX6_home cX6_home 2 (some .int) 3 tr_X6_home := by
  refine ct_of (by decide) ?_
  intro X Q as h hE C Z hG
  subst hE
  obtain ⟨p0, rfl, hh⟩ := hG
  refine ⟨[.ref p0, Value.null], rfl, Nat.le_of_ble_eq_true rfl, ?_⟩
  exact bl_X6_home_0 C Z p0 h hh
theorem cv_X6_home (E : aw_F) : CV E yX6_home cX6_home 2 (some .int) 3 0 5 tr_X6_home := ⟨ct_X6_home E, by decide, kw_376, kw_377, kw_314, kw_375, by decide +kernel, _, _, rfl⟩
theorem dX6_isWire_0 : decode cX6_isWire 0 = .ok (.iload_n 1, 1) := by decide +kernel
theorem dX6_isWire_1 : decode cX6_isWire 1 = .ok (.ifCond .lt 18, 3) := by decide +kernel
theorem dX6_isWire_4 : decode cX6_isWire 4 = .ok (.iload_n 1, 1) := by decide +kernel
theorem dX6_isWire_5 : decode cX6_isWire 5 = .ok (.aload_n 0, 1) := by decide +kernel
theorem dX6_isWire_6 : decode cX6_isWire 6 = .ok (.getfield 20, 3) := by decide +kernel
theorem dX6_isWire_9 : decode cX6_isWire 9 = .ok (.getfield 56, 3) := by decide +kernel
theorem dX6_isWire_12 : decode cX6_isWire 12 = .ok (.if_icmp .ge 7, 3) := by decide +kernel
theorem dX6_isWire_15 : decode cX6_isWire 15 = .ok (.iconst 1, 1) := by decide +kernel
theorem dX6_isWire_16 : decode cX6_isWire 16 = .ok (.goto 4, 3) := by decide +kernel
theorem dX6_isWire_19 : decode cX6_isWire 19 = .ok (.iconst 0, 1) := by decide +kernel
theorem dX6_isWire_20 : decode cX6_isWire 20 = .ok (.ireturn, 1) := by decide +kernel
def sm_X6_isWire_0  (Q : aw_R) (p0 : Nat) (x1 : Int32) (h : aw_H) : Prop :=
  if x1 < 0 then (Q (some (.int 0)) h) else (sg_R h p0 5 1 fun q1 => sg_I h q1 0 0 fun v2 => if v2 ≤ x1 then (Q (some (.int 0)) h) else (Q (some (.int 1)) h))
set_option maxRecDepth 100000 in
set_option maxHeartbeats 4000000 in
theorem bl_X6_isWire_0 {X : aw_X} {Q : aw_R} (C : aw_C X cX6_isWire RX6 2 0) (Z : aw_Z X cX6_isWire (some .boolean) Q) (p0 : Nat) (x1 : Int32) (h : aw_H) (hh : sm_X6_isWire_0  Q p0 x1 h) : Sat X 0 [.ref p0, .int x1] [] h := by
  unfold sm_X6_isWire_0 at hh
  refine ow_iload_n C dX6_isWire_0 rfl rfl ?_
  refine ow_if_lt (tgt := 19) C dX6_isWire_1 (by decide) hh (fun hh => ?_) (fun hh => ?_)
  · skip
    refine ow_iconst (v := 0) C dX6_isWire_19 rfl ?_
    exact ow_iret Z dX6_isWire_20 (Or.inl rfl) hh
  · skip
    refine ow_iload_n C dX6_isWire_4 rfl rfl ?_
    refine ow_aload_n C dX6_isWire_5 rfl rfl ?_
    refine ow_getR (ci := 5) (k := 1) (T := TX6) C rfl igX6 (by decide) kw_308 dX6_isWire_6 hh (fun q1 hh => ?_)
    refine ow_getI (ci := 0) (k := 0) (T := TX0) C rfl igX0 (by decide) kw_309 dX6_isWire_9 hh (fun v2 hh => ?_)
    refine ow_icmp_ge (tgt := 19) C dX6_isWire_12 (by decide) hh (fun hh => ?_) (fun hh => ?_)
    · skip
      refine ow_iconst (v := 0) C dX6_isWire_19 rfl ?_
      exact ow_iret Z dX6_isWire_20 (Or.inl rfl) hh
    · skip
      refine ow_iconst (v := 1) C dX6_isWire_15 rfl ?_
      refine ow_goto (tgt := 20) C dX6_isWire_16 (by decide) ?_
      exact ow_iret Z dX6_isWire_20 (Or.inr rfl) hh
def tr_X6_isWire : aw_T := fun as h Q => ∃ (p0 : Nat) (x1 : Int32), as = [.ref p0, .int x1] ∧ (sm_X6_isWire_0  Q p0 x1 h)
theorem tq_X6_isWire {p0 : Nat} {x1 : Int32} {h : aw_H} {Q : aw_R} : tr_X6_isWire [.ref p0, .int x1] h Q ↔ (sm_X6_isWire_0  Q p0 x1 h) := by
  constructor
  · rintro ⟨_, _, as0, hh⟩
    cases as0
    exact hh
  · intro hh
    exact ⟨_, _, rfl, hh⟩
theorem ct_X6_isWire (E : aw_F) : CT E yX6_isWire cX6_isWire 2 (some .boolean) 0 tr_X6_isWire := by
  refine ct_of (by decide) ?_
  intro X Q as h hE C Z hG
  subst hE
  obtain ⟨p0, x1, rfl, hh⟩ := hG
  refine ⟨[.ref p0, .int x1], rfl, Nat.le_of_ble_eq_true rfl, ?_⟩
  exact bl_X6_isWire_0 C Z p0 x1 h hh
theorem cv_X6_isWire (E : aw_F) : CV E yX6_isWire cX6_isWire 2 (some .boolean) 0 1 5 tr_X6_isWire := ⟨ct_X6_isWire E, by decide, kw_379, kw_380, kw_314, kw_378, by decide +kernel, _, _, rfl⟩
theorem dX6_flip_0 : decode cX6_flip 0 = .ok (.aload_n 0, 1) := by decide +kernel
theorem dX6_flip_1 : decode cX6_flip 1 = .ok (.iload_n 1, 1) := by decide +kernel
theorem dX6_flip_2 : decode cX6_flip 2 = .ok (.invokevirtual 155, 3) := by decide +kernel
theorem dX6_flip_5 : decode cX6_flip 5 = .ok (.ifCond .ne 5, 3) := by decide +kernel
theorem dX6_flip_8 : decode cX6_flip 8 = .ok (.iconst (-1), 1) := by decide +kernel
theorem dX6_flip_9 : decode cX6_flip 9 = .ok (.ireturn, 1) := by decide +kernel
theorem dX6_flip_10 : decode cX6_flip 10 = .ok (.aload_n 0, 1) := by decide +kernel
theorem dX6_flip_11 : decode cX6_flip 11 = .ok (.getfield 26, 3) := by decide +kernel
theorem dX6_flip_14 : decode cX6_flip 14 = .ok (.aload_n 0, 1) := by decide +kernel
theorem dX6_flip_15 : decode cX6_flip 15 = .ok (.getfield 20, 3) := by decide +kernel
theorem dX6_flip_18 : decode cX6_flip 18 = .ok (.invokevirtual 146, 3) := by decide +kernel
theorem dX6_flip_21 : decode cX6_flip 21 = .ok (.aload_n 0, 1) := by decide +kernel
theorem dX6_flip_22 : decode cX6_flip 22 = .ok (.getfield 20, 3) := by decide +kernel
theorem dX6_flip_25 : decode cX6_flip 25 = .ok (.iload_n 1, 1) := by decide +kernel
theorem dX6_flip_26 : decode cX6_flip 26 = .ok (.invokevirtual 158, 3) := by decide +kernel
theorem dX6_flip_29 : decode cX6_flip 29 = .ok (.aload_n 0, 1) := by decide +kernel
theorem dX6_flip_30 : decode cX6_flip 30 = .ok (.getfield 20, 3) := by decide +kernel
theorem dX6_flip_33 : decode cX6_flip 33 = .ok (.getfield 128, 3) := by decide +kernel
theorem dX6_flip_36 : decode cX6_flip 36 = .ok (.ireturn, 1) := by decide +kernel
def sm_X6_flip_0  (Q : aw_R) (p0 : Nat) (x1 : Int32) (h : aw_H) : Prop :=
  sv_O h p0 5 (tr_X6_isWire [.ref p0, .int x1] h fun r2 h1 => sr_I r2 fun v3 => if ¬ v3 = 0 then (sg_R h1 p0 5 2 fun q4 => sg_R h1 p0 5 1 fun q5 => sv_O h1 q4 2 (tr_X3_keep [.ref q4, .ref q5] h1 fun r7 h6 => sr_V r7 <| sg_R h6 p0 5 1 fun q8 => sv_O h6 q8 0 (tr_X0_turnOver [.ref q8, .int x1] h6 fun r10 h9 => sr_V r10 <| sg_R h9 p0 5 1 fun q11 => sg_I h9 q11 0 3 fun v12 => Q (some (.int v12)) h9))) else (Q (some (.int ((-1)))) h1))
set_option maxRecDepth 100000 in
set_option maxHeartbeats 4000000 in
theorem bl_X6_flip_0 {X : aw_X} {Q : aw_R} (C : aw_C X cX6_flip RX6 2 3) (Z : aw_Z X cX6_flip (some .int) Q) (p0 : Nat) (x1 : Int32) (h : aw_H) (hh : sm_X6_flip_0  Q p0 x1 h) : Sat X 0 [.ref p0, .int x1] [] h := by
  unfold sm_X6_flip_0 at hh
  refine ow_aload_n C dX6_flip_0 rfl rfl ?_
  refine ow_iload_n C dX6_flip_1 rfl rfl ?_
  refine ow_callV C (cv_X6_isWire _) (Nat.le_of_ble_eq_true rfl) kw_381 dX6_flip_2 (as := [.int x1]) (st := []) rfl rfl (Nat.le_of_ble_eq_true rfl) hh (fun r2 h1 hq => ?_)
  obtain ⟨v3, rfl, hh⟩ := sr_I_e hq
  show Sat X 5 [.ref p0, .int x1] [.int v3] h1
  refine ow_if_ne (tgt := 10) C dX6_flip_5 (by decide) hh (fun hh => ?_) (fun hh => ?_)
  · skip
    refine ow_aload_n C dX6_flip_10 rfl rfl ?_
    refine ow_getR (ci := 5) (k := 2) (T := TX6) C rfl igX6 (by decide) kw_311 dX6_flip_11 hh (fun q4 hh => ?_)
    refine ow_aload_n C dX6_flip_14 rfl rfl ?_
    refine ow_getR (ci := 5) (k := 1) (T := TX6) C rfl igX6 (by decide) kw_308 dX6_flip_15 hh (fun q5 hh => ?_)
    refine ow_callV C (cv_X3_keep _) (Nat.le_of_ble_eq_true rfl) kw_366 dX6_flip_18 (as := [.ref q5]) (st := []) rfl rfl (Nat.le_of_ble_eq_true rfl) hh (fun r7 h6 hq => ?_)
    obtain ⟨rfl, hh⟩ := sr_V_e hq
    show Sat X 21 [.ref p0, .int x1] [] h6
    refine ow_aload_n C dX6_flip_21 rfl rfl ?_
    refine ow_getR (ci := 5) (k := 1) (T := TX6) C rfl igX6 (by decide) kw_308 dX6_flip_22 hh (fun q8 hh => ?_)
    refine ow_iload_n C dX6_flip_25 rfl rfl ?_
    refine ow_callV C (cv_X0_turnOver _) (Nat.le_of_ble_eq_true rfl) kw_382 dX6_flip_26 (as := [.int x1]) (st := []) rfl rfl (Nat.le_of_ble_eq_true rfl) hh (fun r10 h9 hq => ?_)
    obtain ⟨rfl, hh⟩ := sr_V_e hq
    show Sat X 29 [.ref p0, .int x1] [] h9
    refine ow_aload_n C dX6_flip_29 rfl rfl ?_
    refine ow_getR (ci := 5) (k := 1) (T := TX6) C rfl igX6 (by decide) kw_308 dX6_flip_30 hh (fun q11 hh => ?_)
    refine ow_getI (ci := 0) (k := 3) (T := TX0) C rfl igX0 (by decide) kw_358 dX6_flip_33 hh (fun v12 hh => ?_)
    exact ow_iret Z dX6_flip_36 trivial hh
  · skip
    refine ow_iconst (v := (-1)) C dX6_flip_8 rfl ?_
    exact ow_iret Z dX6_flip_9 trivial hh
def tr_X6_flip : aw_T := fun as h Q => ∃ (p0 : Nat) (x1 : Int32), as = [.ref p0, .int x1] ∧ (sm_X6_flip_0  Q p0 x1 h)
theorem tq_X6_flip {p0 : Nat} {x1 : Int32} {h : aw_H} {Q : aw_R} : tr_X6_flip [.ref p0, .int x1] h Q ↔ (sm_X6_flip_0  Q p0 x1 h) := by
  constructor
  · rintro ⟨_, _, as0, hh⟩
    cases as0
    exact hh
  · intro hh
    exact ⟨_, _, rfl, hh⟩
theorem ct_X6_flip (E : aw_F) : CT E yX6_flip cX6_flip 2 (some .int) 3 tr_X6_flip := by
  refine ct_of (by decide) ?_
  intro X Q as h hE C Z hG
  subst hE
  obtain ⟨p0, x1, rfl, hh⟩ := hG
  refine ⟨[.ref p0, .int x1], rfl, Nat.le_of_ble_eq_true rfl, ?_⟩
  exact bl_X6_flip_0 C Z p0 x1 h hh
theorem cv_X6_flip (E : aw_F) : CV E yX6_flip cX6_flip 2 (some .int) 3 1 5 tr_X6_flip := ⟨ct_X6_flip E, by decide, kw_384, kw_385, kw_314, kw_383, by decide +kernel, _, _, rfl⟩
theorem dX6_kill_0 : decode cX6_kill 0 = .ok (.aload_n 0, 1) := by decide +kernel
theorem dX6_kill_1 : decode cX6_kill 1 = .ok (.iload_n 1, 1) := by decide +kernel
theorem dX6_kill_2 : decode cX6_kill 2 = .ok (.invokevirtual 83, 3) := by decide +kernel
theorem dX6_kill_5 : decode cX6_kill 5 = .ok (.ifCond .ne 5, 3) := by decide +kernel
theorem dX6_kill_8 : decode cX6_kill 8 = .ok (.iconst (-1), 1) := by decide +kernel
theorem dX6_kill_9 : decode cX6_kill 9 = .ok (.ireturn, 1) := by decide +kernel
theorem dX6_kill_10 : decode cX6_kill 10 = .ok (.aload_n 0, 1) := by decide +kernel
theorem dX6_kill_11 : decode cX6_kill 11 = .ok (.getfield 20, 3) := by decide +kernel
theorem dX6_kill_14 : decode cX6_kill 14 = .ok (.getfield 87, 3) := by decide +kernel
theorem dX6_kill_17 : decode cX6_kill 17 = .ok (.iload_n 1, 1) := by decide +kernel
theorem dX6_kill_18 : decode cX6_kill 18 = .ok (.iaload, 1) := by decide +kernel
theorem dX6_kill_19 : decode cX6_kill 19 = .ok (.invokestatic 95, 3) := by decide +kernel
theorem dX6_kill_22 : decode cX6_kill 22 = .ok (.ifCond .eq 6, 3) := by decide +kernel
theorem dX6_kill_25 : decode cX6_kill 25 = .ok (.bipush (-2), 2) := by decide +kernel
theorem dX6_kill_27 : decode cX6_kill 27 = .ok (.ireturn, 1) := by decide +kernel
theorem dX6_kill_28 : decode cX6_kill 28 = .ok (.aload_n 0, 1) := by decide +kernel
theorem dX6_kill_29 : decode cX6_kill 29 = .ok (.getfield 26, 3) := by decide +kernel
theorem dX6_kill_32 : decode cX6_kill 32 = .ok (.aload_n 0, 1) := by decide +kernel
theorem dX6_kill_33 : decode cX6_kill 33 = .ok (.getfield 20, 3) := by decide +kernel
theorem dX6_kill_36 : decode cX6_kill 36 = .ok (.invokevirtual 146, 3) := by decide +kernel
theorem dX6_kill_39 : decode cX6_kill 39 = .ok (.aload_n 0, 1) := by decide +kernel
theorem dX6_kill_40 : decode cX6_kill 40 = .ok (.getfield 20, 3) := by decide +kernel
theorem dX6_kill_43 : decode cX6_kill 43 = .ok (.getfield 87, 3) := by decide +kernel
theorem dX6_kill_46 : decode cX6_kill 46 = .ok (.iload_n 1, 1) := by decide +kernel
theorem dX6_kill_47 : decode cX6_kill 47 = .ok (.aload_n 0, 1) := by decide +kernel
theorem dX6_kill_48 : decode cX6_kill 48 = .ok (.getfield 20, 3) := by decide +kernel
theorem dX6_kill_51 : decode cX6_kill 51 = .ok (.getfield 87, 3) := by decide +kernel
theorem dX6_kill_54 : decode cX6_kill 54 = .ok (.iload_n 1, 1) := by decide +kernel
theorem dX6_kill_55 : decode cX6_kill 55 = .ok (.iaload, 1) := by decide +kernel
theorem dX6_kill_56 : decode cX6_kill 56 = .ok (.invokestatic 161, 3) := by decide +kernel
theorem dX6_kill_59 : decode cX6_kill 59 = .ok (.iastore, 1) := by decide +kernel
theorem dX6_kill_60 : decode cX6_kill 60 = .ok (.aload_n 0, 1) := by decide +kernel
theorem dX6_kill_61 : decode cX6_kill 61 = .ok (.getfield 20, 3) := by decide +kernel
theorem dX6_kill_64 : decode cX6_kill 64 = .ok (.invokevirtual 134, 3) := by decide +kernel
theorem dX6_kill_67 : decode cX6_kill 67 = .ok (.ireturn, 1) := by decide +kernel
def sm_X6_kill_0  (Q : aw_R) (p0 : Nat) (x1 : Int32) (h : aw_H) : Prop :=
  sv_O h p0 5 (tr_X6_isGate [.ref p0, .int x1] h fun r2 h1 => sr_I r2 fun v3 => if ¬ v3 = 0 then (sg_R h1 p0 5 1 fun q4 => sg_R h1 q4 0 2 fun q5 => sa_I h1 q5 x1 fun v6 => tr_X2_isDead [.int v6] h1 fun r8 h7 => sr_I r8 fun v9 => if v9 = 0 then (sg_R h7 p0 5 2 fun q10 => sg_R h7 p0 5 1 fun q11 => sv_O h7 q10 2 (tr_X3_keep [.ref q10, .ref q11] h7 fun r13 h12 => sr_V r13 <| sg_R h12 p0 5 1 fun q14 => sg_R h12 q14 0 2 fun q15 => sg_R h12 p0 5 1 fun q16 => sg_R h12 q16 0 2 fun q17 => sa_I h12 q17 x1 fun v18 => tr_X2_killed [.int v18] h12 fun r20 h19 => sr_I r20 fun v21 => ss_I h19 q15 x1 v21 fun h22 => sg_R h22 p0 5 1 fun q23 => sv_O h22 q23 0 (tr_X0_deadOnes [.ref q23] h22 fun r25 h24 => sr_I r25 fun v26 => Q (some (.int v26)) h24))) else (Q (some (.int ((-2)))) h7)) else (Q (some (.int ((-1)))) h1))
set_option maxRecDepth 100000 in
set_option maxHeartbeats 4000000 in
theorem bl_X6_kill_0 {X : aw_X} {Q : aw_R} (C : aw_C X cX6_kill RX6 2 3) (Z : aw_Z X cX6_kill (some .int) Q) (p0 : Nat) (x1 : Int32) (h : aw_H) (hh : sm_X6_kill_0  Q p0 x1 h) : Sat X 0 [.ref p0, .int x1] [] h := by
  unfold sm_X6_kill_0 at hh
  refine ow_aload_n C dX6_kill_0 rfl rfl ?_
  refine ow_iload_n C dX6_kill_1 rfl rfl ?_
  refine ow_callV C (cv_X6_isGate _) (Nat.le_of_ble_eq_true rfl) kw_327 dX6_kill_2 (as := [.int x1]) (st := []) rfl rfl (Nat.le_of_ble_eq_true rfl) hh (fun r2 h1 hq => ?_)
  obtain ⟨v3, rfl, hh⟩ := sr_I_e hq
  show Sat X 5 [.ref p0, .int x1] [.int v3] h1
  refine ow_if_ne (tgt := 10) C dX6_kill_5 (by decide) hh (fun hh => ?_) (fun hh => ?_)
  · skip
    refine ow_aload_n C dX6_kill_10 rfl rfl ?_
    refine ow_getR (ci := 5) (k := 1) (T := TX6) C rfl igX6 (by decide) kw_308 dX6_kill_11 hh (fun q4 hh => ?_)
    refine ow_getR (ci := 0) (k := 2) (T := TX0) C rfl igX0 (by decide) kw_328 dX6_kill_14 hh (fun q5 hh => ?_)
    refine ow_iload_n C dX6_kill_17 rfl rfl ?_
    refine ow_iaload C dX6_kill_18 hh (fun v6 hh => ?_)
    refine ow_callS C (cs_X2_isDead _) (Nat.le_of_ble_eq_true rfl) kw_330 dX6_kill_19 (as := [.int v6]) (st := []) rfl rfl (Nat.le_of_ble_eq_true rfl) hh (fun r8 h7 hq => ?_)
    obtain ⟨v9, rfl, hh⟩ := sr_I_e hq
    show Sat X 22 [.ref p0, .int x1] [.int v9] h7
    refine ow_if_eq (tgt := 28) C dX6_kill_22 (by decide) hh (fun hh => ?_) (fun hh => ?_)
    · skip
      refine ow_aload_n C dX6_kill_28 rfl rfl ?_
      refine ow_getR (ci := 5) (k := 2) (T := TX6) C rfl igX6 (by decide) kw_311 dX6_kill_29 hh (fun q10 hh => ?_)
      refine ow_aload_n C dX6_kill_32 rfl rfl ?_
      refine ow_getR (ci := 5) (k := 1) (T := TX6) C rfl igX6 (by decide) kw_308 dX6_kill_33 hh (fun q11 hh => ?_)
      refine ow_callV C (cv_X3_keep _) (Nat.le_of_ble_eq_true rfl) kw_366 dX6_kill_36 (as := [.ref q11]) (st := []) rfl rfl (Nat.le_of_ble_eq_true rfl) hh (fun r13 h12 hq => ?_)
      obtain ⟨rfl, hh⟩ := sr_V_e hq
      show Sat X 39 [.ref p0, .int x1] [] h12
      refine ow_aload_n C dX6_kill_39 rfl rfl ?_
      refine ow_getR (ci := 5) (k := 1) (T := TX6) C rfl igX6 (by decide) kw_308 dX6_kill_40 hh (fun q14 hh => ?_)
      refine ow_getR (ci := 0) (k := 2) (T := TX0) C rfl igX0 (by decide) kw_328 dX6_kill_43 hh (fun q15 hh => ?_)
      refine ow_iload_n C dX6_kill_46 rfl rfl ?_
      refine ow_aload_n C dX6_kill_47 rfl rfl ?_
      refine ow_getR (ci := 5) (k := 1) (T := TX6) C rfl igX6 (by decide) kw_308 dX6_kill_48 hh (fun q16 hh => ?_)
      refine ow_getR (ci := 0) (k := 2) (T := TX0) C rfl igX0 (by decide) kw_328 dX6_kill_51 hh (fun q17 hh => ?_)
      refine ow_iload_n C dX6_kill_54 rfl rfl ?_
      refine ow_iaload C dX6_kill_55 hh (fun v18 hh => ?_)
      refine ow_callS C (cs_X2_killed _) (Nat.le_of_ble_eq_true rfl) kw_386 dX6_kill_56 (as := [.int v18]) (st := [.int x1, .ref q15]) rfl rfl (Nat.le_of_ble_eq_true rfl) hh (fun r20 h19 hq => ?_)
      obtain ⟨v21, rfl, hh⟩ := sr_I_e hq
      show Sat X 59 [.ref p0, .int x1] [.int v21, .int x1, .ref q15] h19
      refine ow_iastore C dX6_kill_59 hh (fun h22 hh => ?_)
      refine ow_aload_n C dX6_kill_60 rfl rfl ?_
      refine ow_getR (ci := 5) (k := 1) (T := TX6) C rfl igX6 (by decide) kw_308 dX6_kill_61 hh (fun q23 hh => ?_)
      refine ow_callV C (cv_X0_deadOnes _) (Nat.le_of_ble_eq_true rfl) kw_360 dX6_kill_64 (as := []) (st := []) rfl rfl (Nat.le_of_ble_eq_true rfl) hh (fun r25 h24 hq => ?_)
      obtain ⟨v26, rfl, hh⟩ := sr_I_e hq
      show Sat X 67 [.ref p0, .int x1] [.int v26] h24
      exact ow_iret Z dX6_kill_67 trivial hh
    · skip
      refine ow_bipush (v := (-2)) C dX6_kill_25 rfl ?_
      exact ow_iret Z dX6_kill_27 trivial hh
  · skip
    refine ow_iconst (v := (-1)) C dX6_kill_8 rfl ?_
    exact ow_iret Z dX6_kill_9 trivial hh
def tr_X6_kill : aw_T := fun as h Q => ∃ (p0 : Nat) (x1 : Int32), as = [.ref p0, .int x1] ∧ (sm_X6_kill_0  Q p0 x1 h)
theorem tq_X6_kill {p0 : Nat} {x1 : Int32} {h : aw_H} {Q : aw_R} : tr_X6_kill [.ref p0, .int x1] h Q ↔ (sm_X6_kill_0  Q p0 x1 h) := by
  constructor
  · rintro ⟨_, _, as0, hh⟩
    cases as0
    exact hh
  · intro hh
    exact ⟨_, _, rfl, hh⟩
theorem ct_X6_kill (E : aw_F) : CT E yX6_kill cX6_kill 2 (some .int) 3 tr_X6_kill := by
  refine ct_of (by decide) ?_
  intro X Q as h hE C Z hG
  subst hE
  obtain ⟨p0, x1, rfl, hh⟩ := hG
  refine ⟨[.ref p0, .int x1], rfl, Nat.le_of_ble_eq_true rfl, ?_⟩
  exact bl_X6_kill_0 C Z p0 x1 h hh
theorem cv_X6_kill (E : aw_F) : CV E yX6_kill cX6_kill 2 (some .int) 3 1 5 tr_X6_kill := ⟨ct_X6_kill E, by decide, kw_388, kw_389, kw_314, kw_387, by decide +kernel, _, _, rfl⟩
theorem dX6_heal_0 : decode cX6_heal 0 = .ok (.aload_n 0, 1) := by decide +kernel
theorem dX6_heal_1 : decode cX6_heal 1 = .ok (.iload_n 1, 1) := by decide +kernel
theorem dX6_heal_2 : decode cX6_heal 2 = .ok (.invokevirtual 83, 3) := by decide +kernel
theorem dX6_heal_5 : decode cX6_heal 5 = .ok (.ifCond .ne 5, 3) := by decide +kernel
theorem dX6_heal_8 : decode cX6_heal 8 = .ok (.iconst (-1), 1) := by decide +kernel
theorem dX6_heal_9 : decode cX6_heal 9 = .ok (.ireturn, 1) := by decide +kernel
theorem dX6_heal_10 : decode cX6_heal 10 = .ok (.aload_n 0, 1) := by decide +kernel
theorem dX6_heal_11 : decode cX6_heal 11 = .ok (.getfield 20, 3) := by decide +kernel
theorem dX6_heal_14 : decode cX6_heal 14 = .ok (.getfield 87, 3) := by decide +kernel
theorem dX6_heal_17 : decode cX6_heal 17 = .ok (.iload_n 1, 1) := by decide +kernel
theorem dX6_heal_18 : decode cX6_heal 18 = .ok (.iaload, 1) := by decide +kernel
theorem dX6_heal_19 : decode cX6_heal 19 = .ok (.invokestatic 95, 3) := by decide +kernel
theorem dX6_heal_22 : decode cX6_heal 22 = .ok (.ifCond .ne 6, 3) := by decide +kernel
theorem dX6_heal_25 : decode cX6_heal 25 = .ok (.bipush (-2), 2) := by decide +kernel
theorem dX6_heal_27 : decode cX6_heal 27 = .ok (.ireturn, 1) := by decide +kernel
theorem dX6_heal_28 : decode cX6_heal 28 = .ok (.aload_n 0, 1) := by decide +kernel
theorem dX6_heal_29 : decode cX6_heal 29 = .ok (.getfield 26, 3) := by decide +kernel
theorem dX6_heal_32 : decode cX6_heal 32 = .ok (.aload_n 0, 1) := by decide +kernel
theorem dX6_heal_33 : decode cX6_heal 33 = .ok (.getfield 20, 3) := by decide +kernel
theorem dX6_heal_36 : decode cX6_heal 36 = .ok (.invokevirtual 146, 3) := by decide +kernel
theorem dX6_heal_39 : decode cX6_heal 39 = .ok (.aload_n 0, 1) := by decide +kernel
theorem dX6_heal_40 : decode cX6_heal 40 = .ok (.getfield 20, 3) := by decide +kernel
theorem dX6_heal_43 : decode cX6_heal 43 = .ok (.getfield 87, 3) := by decide +kernel
theorem dX6_heal_46 : decode cX6_heal 46 = .ok (.iload_n 1, 1) := by decide +kernel
theorem dX6_heal_47 : decode cX6_heal 47 = .ok (.aload_n 0, 1) := by decide +kernel
theorem dX6_heal_48 : decode cX6_heal 48 = .ok (.getfield 20, 3) := by decide +kernel
theorem dX6_heal_51 : decode cX6_heal 51 = .ok (.getfield 87, 3) := by decide +kernel
theorem dX6_heal_54 : decode cX6_heal 54 = .ok (.iload_n 1, 1) := by decide +kernel
theorem dX6_heal_55 : decode cX6_heal 55 = .ok (.iaload, 1) := by decide +kernel
theorem dX6_heal_56 : decode cX6_heal 56 = .ok (.invokestatic 164, 3) := by decide +kernel
theorem dX6_heal_59 : decode cX6_heal 59 = .ok (.iastore, 1) := by decide +kernel
theorem dX6_heal_60 : decode cX6_heal 60 = .ok (.aload_n 0, 1) := by decide +kernel
theorem dX6_heal_61 : decode cX6_heal 61 = .ok (.getfield 20, 3) := by decide +kernel
theorem dX6_heal_64 : decode cX6_heal 64 = .ok (.invokevirtual 134, 3) := by decide +kernel
theorem dX6_heal_67 : decode cX6_heal 67 = .ok (.ireturn, 1) := by decide +kernel
def sm_X6_heal_0  (Q : aw_R) (p0 : Nat) (x1 : Int32) (h : aw_H) : Prop :=
  sv_O h p0 5 (tr_X6_isGate [.ref p0, .int x1] h fun r2 h1 => sr_I r2 fun v3 => if ¬ v3 = 0 then (sg_R h1 p0 5 1 fun q4 => sg_R h1 q4 0 2 fun q5 => sa_I h1 q5 x1 fun v6 => tr_X2_isDead [.int v6] h1 fun r8 h7 => sr_I r8 fun v9 => if ¬ v9 = 0 then (sg_R h7 p0 5 2 fun q10 => sg_R h7 p0 5 1 fun q11 => sv_O h7 q10 2 (tr_X3_keep [.ref q10, .ref q11] h7 fun r13 h12 => sr_V r13 <| sg_R h12 p0 5 1 fun q14 => sg_R h12 q14 0 2 fun q15 => sg_R h12 p0 5 1 fun q16 => sg_R h12 q16 0 2 fun q17 => sa_I h12 q17 x1 fun v18 => tr_X2_healed [.int v18] h12 fun r20 h19 => sr_I r20 fun v21 => ss_I h19 q15 x1 v21 fun h22 => sg_R h22 p0 5 1 fun q23 => sv_O h22 q23 0 (tr_X0_deadOnes [.ref q23] h22 fun r25 h24 => sr_I r25 fun v26 => Q (some (.int v26)) h24))) else (Q (some (.int ((-2)))) h7)) else (Q (some (.int ((-1)))) h1))
set_option maxRecDepth 100000 in
set_option maxHeartbeats 4000000 in
theorem bl_X6_heal_0 {X : aw_X} {Q : aw_R} (C : aw_C X cX6_heal RX6 2 3) (Z : aw_Z X cX6_heal (some .int) Q) (p0 : Nat) (x1 : Int32) (h : aw_H) (hh : sm_X6_heal_0  Q p0 x1 h) : Sat X 0 [.ref p0, .int x1] [] h := by
  unfold sm_X6_heal_0 at hh
  refine ow_aload_n C dX6_heal_0 rfl rfl ?_
  refine ow_iload_n C dX6_heal_1 rfl rfl ?_
  refine ow_callV C (cv_X6_isGate _) (Nat.le_of_ble_eq_true rfl) kw_327 dX6_heal_2 (as := [.int x1]) (st := []) rfl rfl (Nat.le_of_ble_eq_true rfl) hh (fun r2 h1 hq => ?_)
  obtain ⟨v3, rfl, hh⟩ := sr_I_e hq
  show Sat X 5 [.ref p0, .int x1] [.int v3] h1
  refine ow_if_ne (tgt := 10) C dX6_heal_5 (by decide) hh (fun hh => ?_) (fun hh => ?_)
  · skip
    refine ow_aload_n C dX6_heal_10 rfl rfl ?_
    refine ow_getR (ci := 5) (k := 1) (T := TX6) C rfl igX6 (by decide) kw_308 dX6_heal_11 hh (fun q4 hh => ?_)
    refine ow_getR (ci := 0) (k := 2) (T := TX0) C rfl igX0 (by decide) kw_328 dX6_heal_14 hh (fun q5 hh => ?_)
    refine ow_iload_n C dX6_heal_17 rfl rfl ?_
    refine ow_iaload C dX6_heal_18 hh (fun v6 hh => ?_)
    refine ow_callS C (cs_X2_isDead _) (Nat.le_of_ble_eq_true rfl) kw_330 dX6_heal_19 (as := [.int v6]) (st := []) rfl rfl (Nat.le_of_ble_eq_true rfl) hh (fun r8 h7 hq => ?_)
    obtain ⟨v9, rfl, hh⟩ := sr_I_e hq
    show Sat X 22 [.ref p0, .int x1] [.int v9] h7
    refine ow_if_ne (tgt := 28) C dX6_heal_22 (by decide) hh (fun hh => ?_) (fun hh => ?_)
    · skip
      refine ow_aload_n C dX6_heal_28 rfl rfl ?_
      refine ow_getR (ci := 5) (k := 2) (T := TX6) C rfl igX6 (by decide) kw_311 dX6_heal_29 hh (fun q10 hh => ?_)
      refine ow_aload_n C dX6_heal_32 rfl rfl ?_
      refine ow_getR (ci := 5) (k := 1) (T := TX6) C rfl igX6 (by decide) kw_308 dX6_heal_33 hh (fun q11 hh => ?_)
      refine ow_callV C (cv_X3_keep _) (Nat.le_of_ble_eq_true rfl) kw_366 dX6_heal_36 (as := [.ref q11]) (st := []) rfl rfl (Nat.le_of_ble_eq_true rfl) hh (fun r13 h12 hq => ?_)
      obtain ⟨rfl, hh⟩ := sr_V_e hq
      show Sat X 39 [.ref p0, .int x1] [] h12
      refine ow_aload_n C dX6_heal_39 rfl rfl ?_
      refine ow_getR (ci := 5) (k := 1) (T := TX6) C rfl igX6 (by decide) kw_308 dX6_heal_40 hh (fun q14 hh => ?_)
      refine ow_getR (ci := 0) (k := 2) (T := TX0) C rfl igX0 (by decide) kw_328 dX6_heal_43 hh (fun q15 hh => ?_)
      refine ow_iload_n C dX6_heal_46 rfl rfl ?_
      refine ow_aload_n C dX6_heal_47 rfl rfl ?_
      refine ow_getR (ci := 5) (k := 1) (T := TX6) C rfl igX6 (by decide) kw_308 dX6_heal_48 hh (fun q16 hh => ?_)
      refine ow_getR (ci := 0) (k := 2) (T := TX0) C rfl igX0 (by decide) kw_328 dX6_heal_51 hh (fun q17 hh => ?_)
      refine ow_iload_n C dX6_heal_54 rfl rfl ?_
      refine ow_iaload C dX6_heal_55 hh (fun v18 hh => ?_)
      refine ow_callS C (cs_X2_healed _) (Nat.le_of_ble_eq_true rfl) kw_390 dX6_heal_56 (as := [.int v18]) (st := [.int x1, .ref q15]) rfl rfl (Nat.le_of_ble_eq_true rfl) hh (fun r20 h19 hq => ?_)
      obtain ⟨v21, rfl, hh⟩ := sr_I_e hq
      show Sat X 59 [.ref p0, .int x1] [.int v21, .int x1, .ref q15] h19
      refine ow_iastore C dX6_heal_59 hh (fun h22 hh => ?_)
      refine ow_aload_n C dX6_heal_60 rfl rfl ?_
      refine ow_getR (ci := 5) (k := 1) (T := TX6) C rfl igX6 (by decide) kw_308 dX6_heal_61 hh (fun q23 hh => ?_)
      refine ow_callV C (cv_X0_deadOnes _) (Nat.le_of_ble_eq_true rfl) kw_360 dX6_heal_64 (as := []) (st := []) rfl rfl (Nat.le_of_ble_eq_true rfl) hh (fun r25 h24 hq => ?_)
      obtain ⟨v26, rfl, hh⟩ := sr_I_e hq
      show Sat X 67 [.ref p0, .int x1] [.int v26] h24
      exact ow_iret Z dX6_heal_67 trivial hh
    · skip
      refine ow_bipush (v := (-2)) C dX6_heal_25 rfl ?_
      exact ow_iret Z dX6_heal_27 trivial hh
  · skip
    refine ow_iconst (v := (-1)) C dX6_heal_8 rfl ?_
    exact ow_iret Z dX6_heal_9 trivial hh
def tr_X6_heal : aw_T := fun as h Q => ∃ (p0 : Nat) (x1 : Int32), as = [.ref p0, .int x1] ∧ (sm_X6_heal_0  Q p0 x1 h)
theorem tq_X6_heal {p0 : Nat} {x1 : Int32} {h : aw_H} {Q : aw_R} : tr_X6_heal [.ref p0, .int x1] h Q ↔ (sm_X6_heal_0  Q p0 x1 h) := by
  constructor
  · rintro ⟨_, _, as0, hh⟩
    cases as0
    exact hh
  · intro hh
    exact ⟨_, _, rfl, hh⟩
theorem ct_X6_heal (E : aw_F) : CT E yX6_heal cX6_heal 2 (some .int) 3 tr_X6_heal := by
  refine ct_of (by decide) ?_
  intro X Q as h hE C Z hG
  subst hE
  obtain ⟨p0, x1, rfl, hh⟩ := hG
  refine ⟨[.ref p0, .int x1], rfl, Nat.le_of_ble_eq_true rfl, ?_⟩
  exact bl_X6_heal_0 C Z p0 x1 h hh
theorem cv_X6_heal (E : aw_F) : CV E yX6_heal cX6_heal 2 (some .int) 3 1 5 tr_X6_heal := ⟨ct_X6_heal E, by decide, kw_392, kw_393, kw_314, kw_391, by decide +kernel, _, _, rfl⟩
theorem dX6_areTwoGates_0 : decode cX6_areTwoGates 0 = .ok (.aload_n 0, 1) := by decide +kernel
theorem dX6_areTwoGates_1 : decode cX6_areTwoGates 1 = .ok (.iload_n 1, 1) := by decide +kernel
theorem dX6_areTwoGates_2 : decode cX6_areTwoGates 2 = .ok (.invokevirtual 83, 3) := by decide +kernel
theorem dX6_areTwoGates_5 : decode cX6_areTwoGates 5 = .ok (.ifCond .eq 20, 3) := by decide +kernel
theorem dX6_areTwoGates_8 : decode cX6_areTwoGates 8 = .ok (.aload_n 0, 1) := by decide +kernel
theorem dX6_areTwoGates_9 : decode cX6_areTwoGates 9 = .ok (.iload_n 2, 1) := by decide +kernel
theorem dX6_areTwoGates_10 : decode cX6_areTwoGates 10 = .ok (.invokevirtual 83, 3) := by decide +kernel
theorem dX6_areTwoGates_13 : decode cX6_areTwoGates 13 = .ok (.ifCond .eq 12, 3) := by decide +kernel
theorem dX6_areTwoGates_16 : decode cX6_areTwoGates 16 = .ok (.iload_n 1, 1) := by decide +kernel
theorem dX6_areTwoGates_17 : decode cX6_areTwoGates 17 = .ok (.iload_n 2, 1) := by decide +kernel
theorem dX6_areTwoGates_18 : decode cX6_areTwoGates 18 = .ok (.if_icmp .eq 7, 3) := by decide +kernel
theorem dX6_areTwoGates_21 : decode cX6_areTwoGates 21 = .ok (.iconst 1, 1) := by decide +kernel
theorem dX6_areTwoGates_22 : decode cX6_areTwoGates 22 = .ok (.goto 4, 3) := by decide +kernel
theorem dX6_areTwoGates_25 : decode cX6_areTwoGates 25 = .ok (.iconst 0, 1) := by decide +kernel
theorem dX6_areTwoGates_26 : decode cX6_areTwoGates 26 = .ok (.ireturn, 1) := by decide +kernel
def sm_X6_areTwoGates_0  (Q : aw_R) (p0 : Nat) (x1 : Int32) (x2 : Int32) (h : aw_H) : Prop :=
  sv_O h p0 5 (tr_X6_isGate [.ref p0, .int x1] h fun r2 h1 => sr_I r2 fun v3 => if v3 = 0 then (Q (some (.int 0)) h1) else (sv_O h1 p0 5 (tr_X6_isGate [.ref p0, .int x2] h1 fun r5 h4 => sr_I r5 fun v6 => if v6 = 0 then (Q (some (.int 0)) h4) else (if x1 = x2 then (Q (some (.int 0)) h4) else (Q (some (.int 1)) h4)))))
set_option maxRecDepth 100000 in
set_option maxHeartbeats 4000000 in
theorem bl_X6_areTwoGates_0 {X : aw_X} {Q : aw_R} (C : aw_C X cX6_areTwoGates RX6 3 1) (Z : aw_Z X cX6_areTwoGates (some .boolean) Q) (p0 : Nat) (x1 : Int32) (x2 : Int32) (h : aw_H) (hh : sm_X6_areTwoGates_0  Q p0 x1 x2 h) : Sat X 0 [.ref p0, .int x1, .int x2] [] h := by
  unfold sm_X6_areTwoGates_0 at hh
  refine ow_aload_n C dX6_areTwoGates_0 rfl rfl ?_
  refine ow_iload_n C dX6_areTwoGates_1 rfl rfl ?_
  refine ow_callV C (cv_X6_isGate _) (Nat.le_of_ble_eq_true rfl) kw_327 dX6_areTwoGates_2 (as := [.int x1]) (st := []) rfl rfl (Nat.le_of_ble_eq_true rfl) hh (fun r2 h1 hq => ?_)
  obtain ⟨v3, rfl, hh⟩ := sr_I_e hq
  show Sat X 5 [.ref p0, .int x1, .int x2] [.int v3] h1
  refine ow_if_eq (tgt := 25) C dX6_areTwoGates_5 (by decide) hh (fun hh => ?_) (fun hh => ?_)
  · skip
    refine ow_iconst (v := 0) C dX6_areTwoGates_25 rfl ?_
    exact ow_iret Z dX6_areTwoGates_26 (Or.inl rfl) hh
  · skip
    refine ow_aload_n C dX6_areTwoGates_8 rfl rfl ?_
    refine ow_iload_n C dX6_areTwoGates_9 rfl rfl ?_
    refine ow_callV C (cv_X6_isGate _) (Nat.le_of_ble_eq_true rfl) kw_327 dX6_areTwoGates_10 (as := [.int x2]) (st := []) rfl rfl (Nat.le_of_ble_eq_true rfl) hh (fun r5 h4 hq => ?_)
    obtain ⟨v6, rfl, hh⟩ := sr_I_e hq
    show Sat X 13 [.ref p0, .int x1, .int x2] [.int v6] h4
    refine ow_if_eq (tgt := 25) C dX6_areTwoGates_13 (by decide) hh (fun hh => ?_) (fun hh => ?_)
    · skip
      refine ow_iconst (v := 0) C dX6_areTwoGates_25 rfl ?_
      exact ow_iret Z dX6_areTwoGates_26 (Or.inl rfl) hh
    · skip
      refine ow_iload_n C dX6_areTwoGates_16 rfl rfl ?_
      refine ow_iload_n C dX6_areTwoGates_17 rfl rfl ?_
      refine ow_icmp_eq (tgt := 25) C dX6_areTwoGates_18 (by decide) hh (fun hh => ?_) (fun hh => ?_)
      · skip
        refine ow_iconst (v := 0) C dX6_areTwoGates_25 rfl ?_
        exact ow_iret Z dX6_areTwoGates_26 (Or.inl rfl) hh
      · skip
        refine ow_iconst (v := 1) C dX6_areTwoGates_21 rfl ?_
        refine ow_goto (tgt := 26) C dX6_areTwoGates_22 (by decide) ?_
        exact ow_iret Z dX6_areTwoGates_26 (Or.inr rfl) hh
def tr_X6_areTwoGates : aw_T := fun as h Q => ∃ (p0 : Nat) (x1 : Int32) (x2 : Int32), as = [.ref p0, .int x1, .int x2] ∧ (sm_X6_areTwoGates_0  Q p0 x1 x2 h)
theorem tq_X6_areTwoGates {p0 : Nat} {x1 : Int32} {x2 : Int32} {h : aw_H} {Q : aw_R} : tr_X6_areTwoGates [.ref p0, .int x1, .int x2] h Q ↔ (sm_X6_areTwoGates_0  Q p0 x1 x2 h) := by
  constructor
  · rintro ⟨_, _, _, as0, hh⟩
    cases as0
    exact hh
  · intro hh
    exact ⟨_, _, _, rfl, hh⟩
theorem ct_X6_areTwoGates (E : aw_F) : CT E yX6_areTwoGates cX6_areTwoGates 3 (some .boolean) 1 tr_X6_areTwoGates := by
  refine ct_of (by decide) ?_
  intro X Q as h hE C Z hG
  subst hE
  obtain ⟨p0, x1, x2, rfl, hh⟩ := hG
  refine ⟨[.ref p0, .int x1, .int x2], rfl, Nat.le_of_ble_eq_true rfl, ?_⟩
  exact bl_X6_areTwoGates_0 C Z p0 x1 x2 h hh
theorem cv_X6_areTwoGates (E : aw_F) : CV E yX6_areTwoGates cX6_areTwoGates 3 (some .boolean) 1 2 5 tr_X6_areTwoGates := ⟨ct_X6_areTwoGates E, by decide, kw_395, kw_396, kw_314, kw_394, by decide +kernel, _, _, rfl⟩
theorem dX6_move_0 : decode cX6_move 0 = .ok (.aload_n 0, 1) := by decide +kernel
theorem dX6_move_1 : decode cX6_move 1 = .ok (.iload_n 1, 1) := by decide +kernel
theorem dX6_move_2 : decode cX6_move 2 = .ok (.iload_n 2, 1) := by decide +kernel
theorem dX6_move_3 : decode cX6_move 3 = .ok (.invokevirtual 167, 3) := by decide +kernel
theorem dX6_move_6 : decode cX6_move 6 = .ok (.ifCond .ne 5, 3) := by decide +kernel
theorem dX6_move_9 : decode cX6_move 9 = .ok (.iconst (-1), 1) := by decide +kernel
theorem dX6_move_10 : decode cX6_move 10 = .ok (.ireturn, 1) := by decide +kernel
theorem dX6_move_11 : decode cX6_move 11 = .ok (.aload_n 0, 1) := by decide +kernel
theorem dX6_move_12 : decode cX6_move 12 = .ok (.getfield 26, 3) := by decide +kernel
theorem dX6_move_15 : decode cX6_move 15 = .ok (.aload_n 0, 1) := by decide +kernel
theorem dX6_move_16 : decode cX6_move 16 = .ok (.getfield 20, 3) := by decide +kernel
theorem dX6_move_19 : decode cX6_move 19 = .ok (.invokevirtual 146, 3) := by decide +kernel
theorem dX6_move_22 : decode cX6_move 22 = .ok (.aload_n 0, 1) := by decide +kernel
theorem dX6_move_23 : decode cX6_move 23 = .ok (.getfield 20, 3) := by decide +kernel
theorem dX6_move_26 : decode cX6_move 26 = .ok (.getfield 87, 3) := by decide +kernel
theorem dX6_move_29 : decode cX6_move 29 = .ok (.iload_n 1, 1) := by decide +kernel
theorem dX6_move_30 : decode cX6_move 30 = .ok (.iaload, 1) := by decide +kernel
theorem dX6_move_31 : decode cX6_move 31 = .ok (.istore_n 3, 1) := by decide +kernel
theorem dX6_move_32 : decode cX6_move 32 = .ok (.aload_n 0, 1) := by decide +kernel
theorem dX6_move_33 : decode cX6_move 33 = .ok (.getfield 20, 3) := by decide +kernel
theorem dX6_move_36 : decode cX6_move 36 = .ok (.getfield 87, 3) := by decide +kernel
theorem dX6_move_39 : decode cX6_move 39 = .ok (.iload_n 1, 1) := by decide +kernel
theorem dX6_move_40 : decode cX6_move 40 = .ok (.aload_n 0, 1) := by decide +kernel
theorem dX6_move_41 : decode cX6_move 41 = .ok (.getfield 20, 3) := by decide +kernel
theorem dX6_move_44 : decode cX6_move 44 = .ok (.getfield 87, 3) := by decide +kernel
theorem dX6_move_47 : decode cX6_move 47 = .ok (.iload_n 2, 1) := by decide +kernel
theorem dX6_move_48 : decode cX6_move 48 = .ok (.iaload, 1) := by decide +kernel
theorem dX6_move_49 : decode cX6_move 49 = .ok (.iastore, 1) := by decide +kernel
theorem dX6_move_50 : decode cX6_move 50 = .ok (.aload_n 0, 1) := by decide +kernel
theorem dX6_move_51 : decode cX6_move 51 = .ok (.getfield 20, 3) := by decide +kernel
theorem dX6_move_54 : decode cX6_move 54 = .ok (.getfield 87, 3) := by decide +kernel
theorem dX6_move_57 : decode cX6_move 57 = .ok (.iload_n 2, 1) := by decide +kernel
theorem dX6_move_58 : decode cX6_move 58 = .ok (.iload_n 3, 1) := by decide +kernel
theorem dX6_move_59 : decode cX6_move 59 = .ok (.iastore, 1) := by decide +kernel
theorem dX6_move_60 : decode cX6_move 60 = .ok (.iconst 1, 1) := by decide +kernel
theorem dX6_move_61 : decode cX6_move 61 = .ok (.ireturn, 1) := by decide +kernel
def sm_X6_move_0  (Q : aw_R) (p0 : Nat) (x1 : Int32) (x2 : Int32) (h : aw_H) : Prop :=
  sv_O h p0 5 (tr_X6_areTwoGates [.ref p0, .int x1, .int x2] h fun r2 h1 => sr_I r2 fun v3 => if ¬ v3 = 0 then (sg_R h1 p0 5 2 fun q4 => sg_R h1 p0 5 1 fun q5 => sv_O h1 q4 2 (tr_X3_keep [.ref q4, .ref q5] h1 fun r7 h6 => sr_V r7 <| sg_R h6 p0 5 1 fun q8 => sg_R h6 q8 0 2 fun q9 => sa_I h6 q9 x1 fun v10 => sg_R h6 p0 5 1 fun q11 => sg_R h6 q11 0 2 fun q12 => sg_R h6 p0 5 1 fun q13 => sg_R h6 q13 0 2 fun q14 => sa_I h6 q14 x2 fun v15 => ss_I h6 q12 x1 v15 fun h16 => sg_R h16 p0 5 1 fun q17 => sg_R h16 q17 0 2 fun q18 => ss_I h16 q18 x2 v10 fun h19 => Q (some (.int 1)) h19)) else (Q (some (.int ((-1)))) h1))
set_option maxRecDepth 100000 in
set_option maxHeartbeats 4000000 in
theorem bl_X6_move_0 {X : aw_X} {Q : aw_R} (C : aw_C X cX6_move RX6 4 3) (Z : aw_Z X cX6_move (some .int) Q) (p0 : Nat) (x1 : Int32) (x2 : Int32) (h : aw_H) (hh : sm_X6_move_0  Q p0 x1 x2 h) : Sat X 0 [.ref p0, .int x1, .int x2, Value.null] [] h := by
  unfold sm_X6_move_0 at hh
  refine ow_aload_n C dX6_move_0 rfl rfl ?_
  refine ow_iload_n C dX6_move_1 rfl rfl ?_
  refine ow_iload_n C dX6_move_2 rfl rfl ?_
  refine ow_callV C (cv_X6_areTwoGates _) (Nat.le_of_ble_eq_true rfl) kw_397 dX6_move_3 (as := [.int x1, .int x2]) (st := []) rfl rfl (Nat.le_of_ble_eq_true rfl) hh (fun r2 h1 hq => ?_)
  obtain ⟨v3, rfl, hh⟩ := sr_I_e hq
  show Sat X 6 [.ref p0, .int x1, .int x2, Value.null] [.int v3] h1
  refine ow_if_ne (tgt := 11) C dX6_move_6 (by decide) hh (fun hh => ?_) (fun hh => ?_)
  · skip
    refine ow_aload_n C dX6_move_11 rfl rfl ?_
    refine ow_getR (ci := 5) (k := 2) (T := TX6) C rfl igX6 (by decide) kw_311 dX6_move_12 hh (fun q4 hh => ?_)
    refine ow_aload_n C dX6_move_15 rfl rfl ?_
    refine ow_getR (ci := 5) (k := 1) (T := TX6) C rfl igX6 (by decide) kw_308 dX6_move_16 hh (fun q5 hh => ?_)
    refine ow_callV C (cv_X3_keep _) (Nat.le_of_ble_eq_true rfl) kw_366 dX6_move_19 (as := [.ref q5]) (st := []) rfl rfl (Nat.le_of_ble_eq_true rfl) hh (fun r7 h6 hq => ?_)
    obtain ⟨rfl, hh⟩ := sr_V_e hq
    show Sat X 22 [.ref p0, .int x1, .int x2, Value.null] [] h6
    refine ow_aload_n C dX6_move_22 rfl rfl ?_
    refine ow_getR (ci := 5) (k := 1) (T := TX6) C rfl igX6 (by decide) kw_308 dX6_move_23 hh (fun q8 hh => ?_)
    refine ow_getR (ci := 0) (k := 2) (T := TX0) C rfl igX0 (by decide) kw_328 dX6_move_26 hh (fun q9 hh => ?_)
    refine ow_iload_n C dX6_move_29 rfl rfl ?_
    refine ow_iaload C dX6_move_30 hh (fun v10 hh => ?_)
    refine ow_istore_n (L' := [.ref p0, .int x1, .int x2, .int v10]) C dX6_move_31 rfl (by decide) rfl ?_
    refine ow_aload_n C dX6_move_32 rfl rfl ?_
    refine ow_getR (ci := 5) (k := 1) (T := TX6) C rfl igX6 (by decide) kw_308 dX6_move_33 hh (fun q11 hh => ?_)
    refine ow_getR (ci := 0) (k := 2) (T := TX0) C rfl igX0 (by decide) kw_328 dX6_move_36 hh (fun q12 hh => ?_)
    refine ow_iload_n C dX6_move_39 rfl rfl ?_
    refine ow_aload_n C dX6_move_40 rfl rfl ?_
    refine ow_getR (ci := 5) (k := 1) (T := TX6) C rfl igX6 (by decide) kw_308 dX6_move_41 hh (fun q13 hh => ?_)
    refine ow_getR (ci := 0) (k := 2) (T := TX0) C rfl igX0 (by decide) kw_328 dX6_move_44 hh (fun q14 hh => ?_)
    refine ow_iload_n C dX6_move_47 rfl rfl ?_
    refine ow_iaload C dX6_move_48 hh (fun v15 hh => ?_)
    refine ow_iastore C dX6_move_49 hh (fun h16 hh => ?_)
    refine ow_aload_n C dX6_move_50 rfl rfl ?_
    refine ow_getR (ci := 5) (k := 1) (T := TX6) C rfl igX6 (by decide) kw_308 dX6_move_51 hh (fun q17 hh => ?_)
    refine ow_getR (ci := 0) (k := 2) (T := TX0) C rfl igX0 (by decide) kw_328 dX6_move_54 hh (fun q18 hh => ?_)
    refine ow_iload_n C dX6_move_57 rfl rfl ?_
    refine ow_iload_n C dX6_move_58 rfl rfl ?_
    refine ow_iastore C dX6_move_59 hh (fun h19 hh => ?_)
    refine ow_iconst (v := 1) C dX6_move_60 rfl ?_
    exact ow_iret Z dX6_move_61 trivial hh
  · skip
    refine ow_iconst (v := (-1)) C dX6_move_9 rfl ?_
    exact ow_iret Z dX6_move_10 trivial hh
def tr_X6_move : aw_T := fun as h Q => ∃ (p0 : Nat) (x1 : Int32) (x2 : Int32), as = [.ref p0, .int x1, .int x2] ∧ (sm_X6_move_0  Q p0 x1 x2 h)
theorem tq_X6_move {p0 : Nat} {x1 : Int32} {x2 : Int32} {h : aw_H} {Q : aw_R} : tr_X6_move [.ref p0, .int x1, .int x2] h Q ↔ (sm_X6_move_0  Q p0 x1 x2 h) := by
  constructor
  · rintro ⟨_, _, _, as0, hh⟩
    cases as0
    exact hh
  · intro hh
    exact ⟨_, _, _, rfl, hh⟩
theorem ct_X6_move (E : aw_F) : CT E yX6_move cX6_move 4 (some .int) 3 tr_X6_move := by
  refine ct_of (by decide) ?_
  intro X Q as h hE C Z hG
  subst hE
  obtain ⟨p0, x1, x2, rfl, hh⟩ := hG
  refine ⟨[.ref p0, .int x1, .int x2, Value.null], rfl, Nat.le_of_ble_eq_true rfl, ?_⟩
  exact bl_X6_move_0 C Z p0 x1 x2 h hh
theorem cv_X6_move (E : aw_F) : CV E yX6_move cX6_move 4 (some .int) 3 2 5 tr_X6_move := ⟨ct_X6_move E, by decide, kw_399, kw_400, kw_314, kw_398, by decide +kernel, _, _, rfl⟩
theorem dX6_drift_0 : decode cX6_drift 0 = .ok (.iload_n 1, 1) := by decide +kernel
theorem dX6_drift_1 : decode cX6_drift 1 = .ok (.iconst 1, 1) := by decide +kernel
theorem dX6_drift_2 : decode cX6_drift 2 = .ok (.if_icmp .lt 9, 3) := by decide +kernel
theorem dX6_drift_5 : decode cX6_drift 5 = .ok (.iload_n 1, 1) := by decide +kernel
theorem dX6_drift_6 : decode cX6_drift 6 = .ok (.bipush 40, 2) := by decide +kernel
theorem dX6_drift_8 : decode cX6_drift 8 = .ok (.if_icmp .le 5, 3) := by decide +kernel
theorem dX6_drift_11 : decode cX6_drift 11 = .ok (.iconst (-1), 1) := by decide +kernel
theorem dX6_drift_12 : decode cX6_drift 12 = .ok (.ireturn, 1) := by decide +kernel
theorem dX6_drift_13 : decode cX6_drift 13 = .ok (.iconst 0, 1) := by decide +kernel
theorem dX6_drift_14 : decode cX6_drift 14 = .ok (.istore_n 2, 1) := by decide +kernel
theorem dX6_drift_15 : decode cX6_drift 15 = .ok (.iload_n 2, 1) := by decide +kernel
theorem dX6_drift_16 : decode cX6_drift 16 = .ok (.iload_n 1, 1) := by decide +kernel
theorem dX6_drift_17 : decode cX6_drift 17 = .ok (.if_icmp .ge 27, 3) := by decide +kernel
theorem dX6_drift_20 : decode cX6_drift 20 = .ok (.aload_n 0, 1) := by decide +kernel
theorem dX6_drift_21 : decode cX6_drift 21 = .ok (.getfield 26, 3) := by decide +kernel
theorem dX6_drift_24 : decode cX6_drift 24 = .ok (.aload_n 0, 1) := by decide +kernel
theorem dX6_drift_25 : decode cX6_drift 25 = .ok (.getfield 20, 3) := by decide +kernel
theorem dX6_drift_28 : decode cX6_drift 28 = .ok (.invokevirtual 146, 3) := by decide +kernel
theorem dX6_drift_31 : decode cX6_drift 31 = .ok (.aload_n 0, 1) := by decide +kernel
theorem dX6_drift_32 : decode cX6_drift 32 = .ok (.getfield 20, 3) := by decide +kernel
theorem dX6_drift_35 : decode cX6_drift 35 = .ok (.invokevirtual 171, 3) := by decide +kernel
theorem dX6_drift_38 : decode cX6_drift 38 = .ok (.iinc 2 1, 3) := by decide +kernel
theorem dX6_drift_41 : decode cX6_drift 41 = .ok (.goto (-26), 3) := by decide +kernel
theorem dX6_drift_44 : decode cX6_drift 44 = .ok (.aload_n 0, 1) := by decide +kernel
theorem dX6_drift_45 : decode cX6_drift 45 = .ok (.getfield 20, 3) := by decide +kernel
theorem dX6_drift_48 : decode cX6_drift 48 = .ok (.getfield 128, 3) := by decide +kernel
theorem dX6_drift_51 : decode cX6_drift 51 = .ok (.ireturn, 1) := by decide +kernel
def sm_X6_drift_15 (K15 : Nat → Int32 → Int32 → aw_H → Prop) (Q : aw_R) (p0 : Nat) (x1 : Int32) (x2 : Int32) (h : aw_H) : Prop :=
  if x1 ≤ x2 then (sg_R h p0 5 1 fun q1 => sg_I h q1 0 3 fun v2 => Q (some (.int v2)) h) else (sg_R h p0 5 2 fun q3 => sg_R h p0 5 1 fun q4 => sv_O h q3 2 (tr_X3_keep [.ref q3, .ref q4] h fun r6 h5 => sr_V r6 <| sg_R h5 p0 5 1 fun q7 => sv_O h5 q7 0 (tr_X0_driftOn [.ref q7] h5 fun r9 h8 => sr_V r9 <| K15 p0 x1 (x2 + 1) h8)))
set_option maxRecDepth 100000 in
set_option maxHeartbeats 4000000 in
theorem bl_X6_drift_15 {X : aw_X} {Q : aw_R} (C : aw_C X cX6_drift RX6 3 5) (Z : aw_Z X cX6_drift (some .int) Q) (p0 : Nat) (x1 : Int32) (x2 : Int32) (h : aw_H) (hh : sm_X6_drift_15 (fun (p0 : Nat) (x1 : Int32) (x2 : Int32) (h : aw_H) => Sat X 15 [.ref p0, .int x1, .int x2] [] h) Q p0 x1 x2 h) : Sat X 15 [.ref p0, .int x1, .int x2] [] h := by
  unfold sm_X6_drift_15 at hh
  refine ow_iload_n C dX6_drift_15 rfl rfl ?_
  refine ow_iload_n C dX6_drift_16 rfl rfl ?_
  refine ow_icmp_ge (tgt := 44) C dX6_drift_17 (by decide) hh (fun hh => ?_) (fun hh => ?_)
  · skip
    refine ow_aload_n C dX6_drift_44 rfl rfl ?_
    refine ow_getR (ci := 5) (k := 1) (T := TX6) C rfl igX6 (by decide) kw_308 dX6_drift_45 hh (fun q1 hh => ?_)
    refine ow_getI (ci := 0) (k := 3) (T := TX0) C rfl igX0 (by decide) kw_358 dX6_drift_48 hh (fun v2 hh => ?_)
    exact ow_iret Z dX6_drift_51 trivial hh
  · skip
    refine ow_aload_n C dX6_drift_20 rfl rfl ?_
    refine ow_getR (ci := 5) (k := 2) (T := TX6) C rfl igX6 (by decide) kw_311 dX6_drift_21 hh (fun q3 hh => ?_)
    refine ow_aload_n C dX6_drift_24 rfl rfl ?_
    refine ow_getR (ci := 5) (k := 1) (T := TX6) C rfl igX6 (by decide) kw_308 dX6_drift_25 hh (fun q4 hh => ?_)
    refine ow_callV C (cv_X3_keep _) (Nat.le_of_ble_eq_true rfl) kw_366 dX6_drift_28 (as := [.ref q4]) (st := []) rfl rfl (Nat.le_of_ble_eq_true rfl) hh (fun r6 h5 hq => ?_)
    obtain ⟨rfl, hh⟩ := sr_V_e hq
    show Sat X 31 [.ref p0, .int x1, .int x2] [] h5
    refine ow_aload_n C dX6_drift_31 rfl rfl ?_
    refine ow_getR (ci := 5) (k := 1) (T := TX6) C rfl igX6 (by decide) kw_308 dX6_drift_32 hh (fun q7 hh => ?_)
    refine ow_callV C (cv_X0_driftOn _) (Nat.le_of_ble_eq_true rfl) kw_401 dX6_drift_35 (as := []) (st := []) rfl rfl (Nat.le_of_ble_eq_true rfl) hh (fun r9 h8 hq => ?_)
    obtain ⟨rfl, hh⟩ := sr_V_e hq
    show Sat X 38 [.ref p0, .int x1, .int x2] [] h8
    refine ow_iinc (v := x2 + 1) (L' := [.ref p0, .int x1, .int (x2 + 1)]) C dX6_drift_38 rfl rfl (by decide) rfl ?_
    refine ow_goto (tgt := 15) C dX6_drift_41 (by decide) ?_
    exact Sat.mask hh (mk_y (mk_y (mk_y mk_0)))
def sm_X6_drift_0 (K15 : Nat → Int32 → Int32 → aw_H → Prop) (Q : aw_R) (p0 : Nat) (x1 : Int32) (h : aw_H) : Prop :=
  if x1 < 1 then (Q (some (.int ((-1)))) h) else (if x1 ≤ 40 then (K15 p0 x1 0 h) else (Q (some (.int ((-1)))) h))
set_option maxRecDepth 100000 in
set_option maxHeartbeats 4000000 in
theorem bl_X6_drift_0 {X : aw_X} {Q : aw_R} (C : aw_C X cX6_drift RX6 3 5) (Z : aw_Z X cX6_drift (some .int) Q) (p0 : Nat) (x1 : Int32) (h : aw_H) (hh : sm_X6_drift_0 (fun (p0 : Nat) (x1 : Int32) (x2 : Int32) (h : aw_H) => Sat X 15 [.ref p0, .int x1, .int x2] [] h) Q p0 x1 h) : Sat X 0 [.ref p0, .int x1, Value.null] [] h := by
  unfold sm_X6_drift_0 at hh
  refine ow_iload_n C dX6_drift_0 rfl rfl ?_
  refine ow_iconst (v := 1) C dX6_drift_1 rfl ?_
  refine ow_icmp_lt (tgt := 11) C dX6_drift_2 (by decide) hh (fun hh => ?_) (fun hh => ?_)
  · skip
    refine ow_iconst (v := (-1)) C dX6_drift_11 rfl ?_
    exact ow_iret Z dX6_drift_12 trivial hh
  · skip
    refine ow_iload_n C dX6_drift_5 rfl rfl ?_
    refine ow_bipush (v := 40) C dX6_drift_6 rfl ?_
    refine ow_icmp_le (tgt := 13) C dX6_drift_8 (by decide) hh (fun hh => ?_) (fun hh => ?_)
    · skip
      refine ow_iconst (v := 0) C dX6_drift_13 rfl ?_
      refine ow_istore_n (L' := [.ref p0, .int x1, .int 0]) C dX6_drift_14 rfl (by decide) rfl ?_
      exact Sat.mask hh (mk_y (mk_y (mk_y mk_0)))
    · skip
      refine ow_iconst (v := (-1)) C dX6_drift_11 rfl ?_
      exact ow_iret Z dX6_drift_12 trivial hh
def tr_X6_drift : aw_T := fun as h Q => ∃ (p0 : Nat) (x1 : Int32), as = [.ref p0, .int x1] ∧ (∀ (K15 : Nat → Int32 → Int32 → aw_H → Prop), (∀ (p0 : Nat) (x1 : Int32) (x2 : Int32) (h : aw_H), sm_X6_drift_15 K15 Q p0 x1 x2 h → K15 p0 x1 x2 h) → sm_X6_drift_0 K15 Q p0 x1 h)
theorem tq_X6_drift {p0 : Nat} {x1 : Int32} {h : aw_H} {Q : aw_R} : tr_X6_drift [.ref p0, .int x1] h Q ↔ (∀ (K15 : Nat → Int32 → Int32 → aw_H → Prop), (∀ (p0 : Nat) (x1 : Int32) (x2 : Int32) (h : aw_H), sm_X6_drift_15 K15 Q p0 x1 x2 h → K15 p0 x1 x2 h) → sm_X6_drift_0 K15 Q p0 x1 h) := by
  constructor
  · rintro ⟨_, _, as0, hh⟩
    cases as0
    exact hh
  · intro hh
    exact ⟨_, _, rfl, hh⟩
theorem ct_X6_drift (E : aw_F) : CT E yX6_drift cX6_drift 3 (some .int) 5 tr_X6_drift := by
  refine ct_of (by decide) ?_
  intro X Q as h hE C Z hG
  subst hE
  obtain ⟨p0, x1, rfl, hh⟩ := hG
  refine ⟨[.ref p0, .int x1, Value.null], rfl, Nat.le_of_ble_eq_true rfl, ?_⟩
  exact bl_X6_drift_0 C Z p0 x1 h (hh (fun (p0 : Nat) (x1 : Int32) (x2 : Int32) (h : aw_H) => Sat X 15 [.ref p0, .int x1, .int x2] [] h) (fun p0 x1 x2 h hh => bl_X6_drift_15 C Z p0 x1 x2 h hh))
theorem cv_X6_drift (E : aw_F) : CV E yX6_drift cX6_drift 3 (some .int) 5 1 5 tr_X6_drift := ⟨ct_X6_drift E, by decide, kw_403, kw_404, kw_314, kw_402, by decide +kernel, _, _, rfl⟩
theorem dX6_undo_0 : decode cX6_undo 0 = .ok (.aload_n 0, 1) := by decide +kernel
theorem dX6_undo_1 : decode cX6_undo 1 = .ok (.getfield 26, 3) := by decide +kernel
theorem dX6_undo_4 : decode cX6_undo 4 = .ok (.aload_n 0, 1) := by decide +kernel
theorem dX6_undo_5 : decode cX6_undo 5 = .ok (.getfield 20, 3) := by decide +kernel
theorem dX6_undo_8 : decode cX6_undo 8 = .ok (.invokevirtual 174, 3) := by decide +kernel
theorem dX6_undo_11 : decode cX6_undo 11 = .ok (.ifCond .eq 13, 3) := by decide +kernel
theorem dX6_undo_14 : decode cX6_undo 14 = .ok (.aload_n 0, 1) := by decide +kernel
theorem dX6_undo_15 : decode cX6_undo 15 = .ok (.getfield 26, 3) := by decide +kernel
theorem dX6_undo_18 : decode cX6_undo 18 = .ok (.getfield 143, 3) := by decide +kernel
theorem dX6_undo_21 : decode cX6_undo 21 = .ok (.goto 5, 3) := by decide +kernel
theorem dX6_undo_24 : decode cX6_undo 24 = .ok (.bipush (-4), 2) := by decide +kernel
theorem dX6_undo_26 : decode cX6_undo 26 = .ok (.ireturn, 1) := by decide +kernel
def sm_X6_undo_0  (Q : aw_R) (p0 : Nat) (h : aw_H) : Prop :=
  sg_R h p0 5 2 fun q1 => sg_R h p0 5 1 fun q2 => sv_O h q1 2 (tr_X3_giveBack [.ref q1, .ref q2] h fun r4 h3 => sr_I r4 fun v5 => if v5 = 0 then (Q (some (.int ((-4)))) h3) else (sg_R h3 p0 5 2 fun q6 => sg_I h3 q6 2 2 fun v7 => Q (some (.int v7)) h3))
set_option maxRecDepth 100000 in
set_option maxHeartbeats 4000000 in
theorem bl_X6_undo_0 {X : aw_X} {Q : aw_R} (C : aw_C X cX6_undo RX6 1 3) (Z : aw_Z X cX6_undo (some .int) Q) (p0 : Nat) (h : aw_H) (hh : sm_X6_undo_0  Q p0 h) : Sat X 0 [.ref p0] [] h := by
  unfold sm_X6_undo_0 at hh
  refine ow_aload_n C dX6_undo_0 rfl rfl ?_
  refine ow_getR (ci := 5) (k := 2) (T := TX6) C rfl igX6 (by decide) kw_311 dX6_undo_1 hh (fun q1 hh => ?_)
  refine ow_aload_n C dX6_undo_4 rfl rfl ?_
  refine ow_getR (ci := 5) (k := 1) (T := TX6) C rfl igX6 (by decide) kw_308 dX6_undo_5 hh (fun q2 hh => ?_)
  refine ow_callV C (cv_X3_giveBack _) (Nat.le_of_ble_eq_true rfl) kw_405 dX6_undo_8 (as := [.ref q2]) (st := []) rfl rfl (Nat.le_of_ble_eq_true rfl) hh (fun r4 h3 hq => ?_)
  obtain ⟨v5, rfl, hh⟩ := sr_I_e hq
  show Sat X 11 [.ref p0] [.int v5] h3
  refine ow_if_eq (tgt := 24) C dX6_undo_11 (by decide) hh (fun hh => ?_) (fun hh => ?_)
  · skip
    refine ow_bipush (v := (-4)) C dX6_undo_24 rfl ?_
    exact ow_iret Z dX6_undo_26 trivial hh
  · skip
    refine ow_aload_n C dX6_undo_14 rfl rfl ?_
    refine ow_getR (ci := 5) (k := 2) (T := TX6) C rfl igX6 (by decide) kw_311 dX6_undo_15 hh (fun q6 hh => ?_)
    refine ow_getI (ci := 2) (k := 2) (T := TX3) C rfl igX3 (by decide) kw_362 dX6_undo_18 hh (fun v7 hh => ?_)
    refine ow_goto (tgt := 26) C dX6_undo_21 (by decide) ?_
    exact ow_iret Z dX6_undo_26 trivial hh
def tr_X6_undo : aw_T := fun as h Q => ∃ (p0 : Nat), as = [.ref p0] ∧ (sm_X6_undo_0  Q p0 h)
theorem tq_X6_undo {p0 : Nat} {h : aw_H} {Q : aw_R} : tr_X6_undo [.ref p0] h Q ↔ (sm_X6_undo_0  Q p0 h) := by
  constructor
  · rintro ⟨_, as0, hh⟩
    cases as0
    exact hh
  · intro hh
    exact ⟨_, rfl, hh⟩
theorem ct_X6_undo (E : aw_F) : CT E yX6_undo cX6_undo 1 (some .int) 3 tr_X6_undo := by
  refine ct_of (by decide) ?_
  intro X Q as h hE C Z hG
  subst hE
  obtain ⟨p0, rfl, hh⟩ := hG
  refine ⟨[.ref p0], rfl, Nat.le_of_ble_eq_true rfl, ?_⟩
  exact bl_X6_undo_0 C Z p0 h hh
theorem cv_X6_undo (E : aw_F) : CV E yX6_undo cX6_undo 1 (some .int) 3 0 5 tr_X6_undo := ⟨ct_X6_undo E, by decide, kw_407, kw_408, kw_314, kw_406, by decide +kernel, _, _, rfl⟩
theorem dX6_seed_0 : decode cX6_seed 0 = .ok (.iload_n 1, 1) := by decide +kernel
theorem dX6_seed_1 : decode cX6_seed 1 = .ok (.ifCond .ge 5, 3) := by decide +kernel
theorem dX6_seed_4 : decode cX6_seed 4 = .ok (.iconst (-1), 1) := by decide +kernel
theorem dX6_seed_5 : decode cX6_seed 5 = .ok (.ireturn, 1) := by decide +kernel
theorem dX6_seed_6 : decode cX6_seed 6 = .ok (.aload_n 0, 1) := by decide +kernel
theorem dX6_seed_7 : decode cX6_seed 7 = .ok (.getfield 20, 3) := by decide +kernel
theorem dX6_seed_10 : decode cX6_seed 10 = .ok (.getfield 121, 3) := by decide +kernel
theorem dX6_seed_13 : decode cX6_seed 13 = .ok (.istore_n 2, 1) := by decide +kernel
theorem dX6_seed_14 : decode cX6_seed 14 = .ok (.aload_n 0, 1) := by decide +kernel
theorem dX6_seed_15 : decode cX6_seed 15 = .ok (.getfield 20, 3) := by decide +kernel
theorem dX6_seed_18 : decode cX6_seed 18 = .ok (.iload_n 1, 1) := by decide +kernel
theorem dX6_seed_19 : decode cX6_seed 19 = .ok (.putfield 121, 3) := by decide +kernel
theorem dX6_seed_22 : decode cX6_seed 22 = .ok (.iload_n 2, 1) := by decide +kernel
theorem dX6_seed_23 : decode cX6_seed 23 = .ok (.ireturn, 1) := by decide +kernel
def sm_X6_seed_0  (Q : aw_R) (p0 : Nat) (x1 : Int32) (h : aw_H) : Prop :=
  if 0 ≤ x1 then (sg_R h p0 5 1 fun q1 => sg_I h q1 0 5 fun v2 => sg_R h p0 5 1 fun q3 => sp_I h q3 0 5 x1 fun h4 => Q (some (.int v2)) h4) else (Q (some (.int ((-1)))) h)
set_option maxRecDepth 100000 in
set_option maxHeartbeats 4000000 in
theorem bl_X6_seed_0 {X : aw_X} {Q : aw_R} (C : aw_C X cX6_seed RX6 3 0) (Z : aw_Z X cX6_seed (some .int) Q) (p0 : Nat) (x1 : Int32) (h : aw_H) (hh : sm_X6_seed_0  Q p0 x1 h) : Sat X 0 [.ref p0, .int x1, Value.null] [] h := by
  unfold sm_X6_seed_0 at hh
  refine ow_iload_n C dX6_seed_0 rfl rfl ?_
  refine ow_if_ge (tgt := 6) C dX6_seed_1 (by decide) hh (fun hh => ?_) (fun hh => ?_)
  · skip
    refine ow_aload_n C dX6_seed_6 rfl rfl ?_
    refine ow_getR (ci := 5) (k := 1) (T := TX6) C rfl igX6 (by decide) kw_308 dX6_seed_7 hh (fun q1 hh => ?_)
    refine ow_getI (ci := 0) (k := 5) (T := TX0) C rfl igX0 (by decide) kw_352 dX6_seed_10 hh (fun v2 hh => ?_)
    refine ow_istore_n (L' := [.ref p0, .int x1, .int v2]) C dX6_seed_13 rfl (by decide) rfl ?_
    refine ow_aload_n C dX6_seed_14 rfl rfl ?_
    refine ow_getR (ci := 5) (k := 1) (T := TX6) C rfl igX6 (by decide) kw_308 dX6_seed_15 hh (fun q3 hh => ?_)
    refine ow_iload_n C dX6_seed_18 rfl rfl ?_
    refine ow_putI (ci := 0) (k := 5) (T := TX0) C rfl igX0 tyX0 tyX0_ok nmX0 (by decide) kw_352 rfl (by decide +kernel) dX6_seed_19 hh (fun h4 hh => ?_)
    refine ow_iload_n C dX6_seed_22 rfl rfl ?_
    exact ow_iret Z dX6_seed_23 trivial hh
  · skip
    refine ow_iconst (v := (-1)) C dX6_seed_4 rfl ?_
    exact ow_iret Z dX6_seed_5 trivial hh
def tr_X6_seed : aw_T := fun as h Q => ∃ (p0 : Nat) (x1 : Int32), as = [.ref p0, .int x1] ∧ (sm_X6_seed_0  Q p0 x1 h)
theorem tq_X6_seed {p0 : Nat} {x1 : Int32} {h : aw_H} {Q : aw_R} : tr_X6_seed [.ref p0, .int x1] h Q ↔ (sm_X6_seed_0  Q p0 x1 h) := by
  constructor
  · rintro ⟨_, _, as0, hh⟩
    cases as0
    exact hh
  · intro hh
    exact ⟨_, _, rfl, hh⟩
theorem ct_X6_seed (E : aw_F) : CT E yX6_seed cX6_seed 3 (some .int) 0 tr_X6_seed := by
  refine ct_of (by decide) ?_
  intro X Q as h hE C Z hG
  subst hE
  obtain ⟨p0, x1, rfl, hh⟩ := hG
  refine ⟨[.ref p0, .int x1, Value.null], rfl, Nat.le_of_ble_eq_true rfl, ?_⟩
  exact bl_X6_seed_0 C Z p0 x1 h hh
theorem cv_X6_seed (E : aw_F) : CV E yX6_seed cX6_seed 3 (some .int) 0 1 5 tr_X6_seed := ⟨ct_X6_seed E, by decide, kw_410, kw_411, kw_314, kw_409, by decide +kernel, _, _, rfl⟩
theorem dX6_goes_0 : decode cX6_goes 0 = .ok (.aload_n 0, 1) := by decide +kernel
theorem dX6_goes_1 : decode cX6_goes 1 = .ok (.iload_n 1, 1) := by decide +kernel
theorem dX6_goes_2 : decode cX6_goes 2 = .ok (.invokevirtual 102, 3) := by decide +kernel
theorem dX6_goes_5 : decode cX6_goes 5 = .ok (.ifCond .eq 12, 3) := by decide +kernel
theorem dX6_goes_8 : decode cX6_goes 8 = .ok (.iload_n 2, 1) := by decide +kernel
theorem dX6_goes_9 : decode cX6_goes 9 = .ok (.ifCond .lt 8, 3) := by decide +kernel
theorem dX6_goes_12 : decode cX6_goes 12 = .ok (.iload_n 2, 1) := by decide +kernel
theorem dX6_goes_13 : decode cX6_goes 13 = .ok (.iconst 1, 1) := by decide +kernel
theorem dX6_goes_14 : decode cX6_goes 14 = .ok (.if_icmp .le 5, 3) := by decide +kernel
theorem dX6_goes_17 : decode cX6_goes 17 = .ok (.iconst (-1), 1) := by decide +kernel
theorem dX6_goes_18 : decode cX6_goes 18 = .ok (.ireturn, 1) := by decide +kernel
theorem dX6_goes_19 : decode cX6_goes 19 = .ok (.iload_n 2, 1) := by decide +kernel
theorem dX6_goes_20 : decode cX6_goes 20 = .ok (.ifCond .ne 14, 3) := by decide +kernel
theorem dX6_goes_23 : decode cX6_goes 23 = .ok (.aload_n 0, 1) := by decide +kernel
theorem dX6_goes_24 : decode cX6_goes 24 = .ok (.getfield 20, 3) := by decide +kernel
theorem dX6_goes_27 : decode cX6_goes 27 = .ok (.iload_n 1, 1) := by decide +kernel
theorem dX6_goes_28 : decode cX6_goes 28 = .ok (.invokevirtual 177, 3) := by decide +kernel
theorem dX6_goes_31 : decode cX6_goes 31 = .ok (.goto 11, 3) := by decide +kernel
theorem dX6_goes_34 : decode cX6_goes 34 = .ok (.aload_n 0, 1) := by decide +kernel
theorem dX6_goes_35 : decode cX6_goes 35 = .ok (.getfield 20, 3) := by decide +kernel
theorem dX6_goes_38 : decode cX6_goes 38 = .ok (.iload_n 1, 1) := by decide +kernel
theorem dX6_goes_39 : decode cX6_goes 39 = .ok (.invokevirtual 180, 3) := by decide +kernel
theorem dX6_goes_42 : decode cX6_goes 42 = .ok (.ireturn, 1) := by decide +kernel
def sm_X6_goes_0  (Q : aw_R) (p0 : Nat) (x1 : Int32) (x2 : Int32) (h : aw_H) : Prop :=
  sv_O h p0 5 (tr_X6_isState [.ref p0, .int x1] h fun r2 h1 => sr_I r2 fun v3 => if v3 = 0 then (Q (some (.int ((-1)))) h1) else (if x2 < 0 then (Q (some (.int ((-1)))) h1) else (if x2 ≤ 1 then (if ¬ x2 = 0 then (sg_R h1 p0 5 1 fun q4 => sv_O h1 q4 0 (tr_X0_runBack [.ref q4, .int x1] h1 fun r6 h5 => sr_I r6 fun v7 => Q (some (.int v7)) h5)) else (sg_R h1 p0 5 1 fun q8 => sv_O h1 q8 0 (tr_X0_run [.ref q8, .int x1] h1 fun r10 h9 => sr_I r10 fun v11 => Q (some (.int v11)) h9))) else (Q (some (.int ((-1)))) h1))))
set_option maxRecDepth 100000 in
set_option maxHeartbeats 4000000 in
theorem bl_X6_goes_0 {X : aw_X} {Q : aw_R} (C : aw_C X cX6_goes RX6 3 4) (Z : aw_Z X cX6_goes (some .int) Q) (p0 : Nat) (x1 : Int32) (x2 : Int32) (h : aw_H) (hh : sm_X6_goes_0  Q p0 x1 x2 h) : Sat X 0 [.ref p0, .int x1, .int x2] [] h := by
  unfold sm_X6_goes_0 at hh
  refine ow_aload_n C dX6_goes_0 rfl rfl ?_
  refine ow_iload_n C dX6_goes_1 rfl rfl ?_
  refine ow_callV C (cv_X6_isState _) (Nat.le_of_ble_eq_true rfl) kw_339 dX6_goes_2 (as := [.int x1]) (st := []) rfl rfl (Nat.le_of_ble_eq_true rfl) hh (fun r2 h1 hq => ?_)
  obtain ⟨v3, rfl, hh⟩ := sr_I_e hq
  show Sat X 5 [.ref p0, .int x1, .int x2] [.int v3] h1
  refine ow_if_eq (tgt := 17) C dX6_goes_5 (by decide) hh (fun hh => ?_) (fun hh => ?_)
  · skip
    refine ow_iconst (v := (-1)) C dX6_goes_17 rfl ?_
    exact ow_iret Z dX6_goes_18 trivial hh
  · skip
    refine ow_iload_n C dX6_goes_8 rfl rfl ?_
    refine ow_if_lt (tgt := 17) C dX6_goes_9 (by decide) hh (fun hh => ?_) (fun hh => ?_)
    · skip
      refine ow_iconst (v := (-1)) C dX6_goes_17 rfl ?_
      exact ow_iret Z dX6_goes_18 trivial hh
    · skip
      refine ow_iload_n C dX6_goes_12 rfl rfl ?_
      refine ow_iconst (v := 1) C dX6_goes_13 rfl ?_
      refine ow_icmp_le (tgt := 19) C dX6_goes_14 (by decide) hh (fun hh => ?_) (fun hh => ?_)
      · skip
        refine ow_iload_n C dX6_goes_19 rfl rfl ?_
        refine ow_if_ne (tgt := 34) C dX6_goes_20 (by decide) hh (fun hh => ?_) (fun hh => ?_)
        · skip
          refine ow_aload_n C dX6_goes_34 rfl rfl ?_
          refine ow_getR (ci := 5) (k := 1) (T := TX6) C rfl igX6 (by decide) kw_308 dX6_goes_35 hh (fun q4 hh => ?_)
          refine ow_iload_n C dX6_goes_38 rfl rfl ?_
          refine ow_callV C (cv_X0_runBack _) (Nat.le_of_ble_eq_true rfl) kw_412 dX6_goes_39 (as := [.int x1]) (st := []) rfl rfl (Nat.le_of_ble_eq_true rfl) hh (fun r6 h5 hq => ?_)
          obtain ⟨v7, rfl, hh⟩ := sr_I_e hq
          show Sat X 42 [.ref p0, .int x1, .int x2] [.int v7] h5
          exact ow_iret Z dX6_goes_42 trivial hh
        · skip
          refine ow_aload_n C dX6_goes_23 rfl rfl ?_
          refine ow_getR (ci := 5) (k := 1) (T := TX6) C rfl igX6 (by decide) kw_308 dX6_goes_24 hh (fun q8 hh => ?_)
          refine ow_iload_n C dX6_goes_27 rfl rfl ?_
          refine ow_callV C (cv_X0_run _) (Nat.le_of_ble_eq_true rfl) kw_413 dX6_goes_28 (as := [.int x1]) (st := []) rfl rfl (Nat.le_of_ble_eq_true rfl) hh (fun r10 h9 hq => ?_)
          obtain ⟨v11, rfl, hh⟩ := sr_I_e hq
          show Sat X 31 [.ref p0, .int x1, .int x2] [.int v11] h9
          refine ow_goto (tgt := 42) C dX6_goes_31 (by decide) ?_
          exact ow_iret Z dX6_goes_42 trivial hh
      · skip
        refine ow_iconst (v := (-1)) C dX6_goes_17 rfl ?_
        exact ow_iret Z dX6_goes_18 trivial hh
def tr_X6_goes : aw_T := fun as h Q => ∃ (p0 : Nat) (x1 : Int32) (x2 : Int32), as = [.ref p0, .int x1, .int x2] ∧ (sm_X6_goes_0  Q p0 x1 x2 h)
theorem tq_X6_goes {p0 : Nat} {x1 : Int32} {x2 : Int32} {h : aw_H} {Q : aw_R} : tr_X6_goes [.ref p0, .int x1, .int x2] h Q ↔ (sm_X6_goes_0  Q p0 x1 x2 h) := by
  constructor
  · rintro ⟨_, _, _, as0, hh⟩
    cases as0
    exact hh
  · intro hh
    exact ⟨_, _, _, rfl, hh⟩
theorem ct_X6_goes (E : aw_F) : CT E yX6_goes cX6_goes 3 (some .int) 4 tr_X6_goes := by
  refine ct_of (by decide) ?_
  intro X Q as h hE C Z hG
  subst hE
  obtain ⟨p0, x1, x2, rfl, hh⟩ := hG
  refine ⟨[.ref p0, .int x1, .int x2], rfl, Nat.le_of_ble_eq_true rfl, ?_⟩
  exact bl_X6_goes_0 C Z p0 x1 x2 h hh
theorem cv_X6_goes (E : aw_F) : CV E yX6_goes cX6_goes 3 (some .int) 4 2 5 tr_X6_goes := ⟨ct_X6_goes E, by decide, kw_415, kw_416, kw_314, kw_414, by decide +kernel, _, _, rfl⟩
theorem dX6_far_0 : decode cX6_far 0 = .ok (.aload_n 0, 1) := by decide +kernel
theorem dX6_far_1 : decode cX6_far 1 = .ok (.iload_n 1, 1) := by decide +kernel
theorem dX6_far_2 : decode cX6_far 2 = .ok (.invokevirtual 102, 3) := by decide +kernel
theorem dX6_far_5 : decode cX6_far 5 = .ok (.ifCond .eq 13, 3) := by decide +kernel
theorem dX6_far_8 : decode cX6_far 8 = .ok (.iload_n 2, 1) := by decide +kernel
theorem dX6_far_9 : decode cX6_far 9 = .ok (.ifCond .lt 9, 3) := by decide +kernel
theorem dX6_far_12 : decode cX6_far 12 = .ok (.iload_n 2, 1) := by decide +kernel
theorem dX6_far_13 : decode cX6_far 13 = .ok (.ldc 183, 2) := by decide +kernel
theorem dX6_far_15 : decode cX6_far 15 = .ok (.if_icmp .le 5, 3) := by decide +kernel
theorem dX6_far_18 : decode cX6_far 18 = .ok (.iconst (-1), 1) := by decide +kernel
theorem dX6_far_19 : decode cX6_far 19 = .ok (.ireturn, 1) := by decide +kernel
theorem dX6_far_20 : decode cX6_far 20 = .ok (.aload_n 0, 1) := by decide +kernel
theorem dX6_far_21 : decode cX6_far 21 = .ok (.getfield 10, 3) := by decide +kernel
theorem dX6_far_24 : decode cX6_far 24 = .ok (.iload_n 1, 1) := by decide +kernel
theorem dX6_far_25 : decode cX6_far 25 = .ok (.iload_n 2, 1) := by decide +kernel
theorem dX6_far_26 : decode cX6_far 26 = .ok (.invokevirtual 184, 3) := by decide +kernel
theorem dX6_far_29 : decode cX6_far 29 = .ok (.ireturn, 1) := by decide +kernel
def sm_X6_far_0  (Q : aw_R) (p0 : Nat) (x1 : Int32) (x2 : Int32) (h : aw_H) : Prop :=
  sv_O h p0 5 (tr_X6_isState [.ref p0, .int x1] h fun r2 h1 => sr_I r2 fun v3 => if v3 = 0 then (Q (some (.int ((-1)))) h1) else (if x2 < 0 then (Q (some (.int ((-1)))) h1) else (if x2 ≤ 2000000000 then (sg_R h1 p0 5 0 fun q4 => sv_O h1 q4 1 (tr_X1_behindRuns [.ref q4, .int x1, .int x2] h1 fun r6 h5 => sr_I r6 fun v7 => Q (some (.int v7)) h5)) else (Q (some (.int ((-1)))) h1))))
set_option maxRecDepth 100000 in
set_option maxHeartbeats 4000000 in
theorem bl_X6_far_0 {X : aw_X} {Q : aw_R} (C : aw_C X cX6_far RX6 3 6) (Z : aw_Z X cX6_far (some .int) Q) (p0 : Nat) (x1 : Int32) (x2 : Int32) (h : aw_H) (hh : sm_X6_far_0  Q p0 x1 x2 h) : Sat X 0 [.ref p0, .int x1, .int x2] [] h := by
  unfold sm_X6_far_0 at hh
  refine ow_aload_n C dX6_far_0 rfl rfl ?_
  refine ow_iload_n C dX6_far_1 rfl rfl ?_
  refine ow_callV C (cv_X6_isState _) (Nat.le_of_ble_eq_true rfl) kw_339 dX6_far_2 (as := [.int x1]) (st := []) rfl rfl (Nat.le_of_ble_eq_true rfl) hh (fun r2 h1 hq => ?_)
  obtain ⟨v3, rfl, hh⟩ := sr_I_e hq
  show Sat X 5 [.ref p0, .int x1, .int x2] [.int v3] h1
  refine ow_if_eq (tgt := 18) C dX6_far_5 (by decide) hh (fun hh => ?_) (fun hh => ?_)
  · skip
    refine ow_iconst (v := (-1)) C dX6_far_18 rfl ?_
    exact ow_iret Z dX6_far_19 trivial hh
  · skip
    refine ow_iload_n C dX6_far_8 rfl rfl ?_
    refine ow_if_lt (tgt := 18) C dX6_far_9 (by decide) hh (fun hh => ?_) (fun hh => ?_)
    · skip
      refine ow_iconst (v := (-1)) C dX6_far_18 rfl ?_
      exact ow_iret Z dX6_far_19 trivial hh
    · skip
      refine ow_iload_n C dX6_far_12 rfl rfl ?_
      refine ow_ldc C kw_417 dX6_far_13 ?_
      refine ow_icmp_le (tgt := 20) C dX6_far_15 (by decide) hh (fun hh => ?_) (fun hh => ?_)
      · skip
        refine ow_aload_n C dX6_far_20 rfl rfl ?_
        refine ow_getR (ci := 5) (k := 0) (T := TX6) C rfl igX6 (by decide) kw_418 dX6_far_21 hh (fun q4 hh => ?_)
        refine ow_iload_n C dX6_far_24 rfl rfl ?_
        refine ow_iload_n C dX6_far_25 rfl rfl ?_
        refine ow_callV C (cv_X1_behindRuns _) (Nat.le_of_ble_eq_true rfl) kw_419 dX6_far_26 (as := [.int x1, .int x2]) (st := []) rfl rfl (Nat.le_of_ble_eq_true rfl) hh (fun r6 h5 hq => ?_)
        obtain ⟨v7, rfl, hh⟩ := sr_I_e hq
        show Sat X 29 [.ref p0, .int x1, .int x2] [.int v7] h5
        exact ow_iret Z dX6_far_29 trivial hh
      · skip
        refine ow_iconst (v := (-1)) C dX6_far_18 rfl ?_
        exact ow_iret Z dX6_far_19 trivial hh
def tr_X6_far : aw_T := fun as h Q => ∃ (p0 : Nat) (x1 : Int32) (x2 : Int32), as = [.ref p0, .int x1, .int x2] ∧ (sm_X6_far_0  Q p0 x1 x2 h)
theorem tq_X6_far {p0 : Nat} {x1 : Int32} {x2 : Int32} {h : aw_H} {Q : aw_R} : tr_X6_far [.ref p0, .int x1, .int x2] h Q ↔ (sm_X6_far_0  Q p0 x1 x2 h) := by
  constructor
  · rintro ⟨_, _, _, as0, hh⟩
    cases as0
    exact hh
  · intro hh
    exact ⟨_, _, _, rfl, hh⟩
theorem ct_X6_far (E : aw_F) : CT E yX6_far cX6_far 3 (some .int) 6 tr_X6_far := by
  refine ct_of (by decide) ?_
  intro X Q as h hE C Z hG
  subst hE
  obtain ⟨p0, x1, x2, rfl, hh⟩ := hG
  refine ⟨[.ref p0, .int x1, .int x2], rfl, Nat.le_of_ble_eq_true rfl, ?_⟩
  exact bl_X6_far_0 C Z p0 x1 x2 h hh
theorem cv_X6_far (E : aw_F) : CV E yX6_far cX6_far 3 (some .int) 6 2 5 tr_X6_far := ⟨ct_X6_far E, by decide, kw_421, kw_422, kw_314, kw_420, by decide +kernel, _, _, rfl⟩
theorem dX6_ring_0 : decode cX6_ring 0 = .ok (.aload_n 0, 1) := by decide +kernel
theorem dX6_ring_1 : decode cX6_ring 1 = .ok (.iload_n 1, 1) := by decide +kernel
theorem dX6_ring_2 : decode cX6_ring 2 = .ok (.invokevirtual 102, 3) := by decide +kernel
theorem dX6_ring_5 : decode cX6_ring 5 = .ok (.ifCond .ne 5, 3) := by decide +kernel
theorem dX6_ring_8 : decode cX6_ring 8 = .ok (.iconst (-1), 1) := by decide +kernel
theorem dX6_ring_9 : decode cX6_ring 9 = .ok (.ireturn, 1) := by decide +kernel
theorem dX6_ring_10 : decode cX6_ring 10 = .ok (.aload_n 0, 1) := by decide +kernel
theorem dX6_ring_11 : decode cX6_ring 11 = .ok (.getfield 10, 3) := by decide +kernel
theorem dX6_ring_14 : decode cX6_ring 14 = .ok (.iload_n 1, 1) := by decide +kernel
theorem dX6_ring_15 : decode cX6_ring 15 = .ok (.invokevirtual 187, 3) := by decide +kernel
theorem dX6_ring_18 : decode cX6_ring 18 = .ok (.ireturn, 1) := by decide +kernel
def sm_X6_ring_0  (Q : aw_R) (p0 : Nat) (x1 : Int32) (h : aw_H) : Prop :=
  sv_O h p0 5 (tr_X6_isState [.ref p0, .int x1] h fun r2 h1 => sr_I r2 fun v3 => if ¬ v3 = 0 then (sg_R h1 p0 5 0 fun q4 => sv_O h1 q4 1 (tr_X1_ringLength [.ref q4, .int x1] h1 fun r6 h5 => sr_I r6 fun v7 => Q (some (.int v7)) h5)) else (Q (some (.int ((-1)))) h1))
set_option maxRecDepth 100000 in
set_option maxHeartbeats 4000000 in
theorem bl_X6_ring_0 {X : aw_X} {Q : aw_R} (C : aw_C X cX6_ring RX6 2 5) (Z : aw_Z X cX6_ring (some .int) Q) (p0 : Nat) (x1 : Int32) (h : aw_H) (hh : sm_X6_ring_0  Q p0 x1 h) : Sat X 0 [.ref p0, .int x1] [] h := by
  unfold sm_X6_ring_0 at hh
  refine ow_aload_n C dX6_ring_0 rfl rfl ?_
  refine ow_iload_n C dX6_ring_1 rfl rfl ?_
  refine ow_callV C (cv_X6_isState _) (Nat.le_of_ble_eq_true rfl) kw_339 dX6_ring_2 (as := [.int x1]) (st := []) rfl rfl (Nat.le_of_ble_eq_true rfl) hh (fun r2 h1 hq => ?_)
  obtain ⟨v3, rfl, hh⟩ := sr_I_e hq
  show Sat X 5 [.ref p0, .int x1] [.int v3] h1
  refine ow_if_ne (tgt := 10) C dX6_ring_5 (by decide) hh (fun hh => ?_) (fun hh => ?_)
  · skip
    refine ow_aload_n C dX6_ring_10 rfl rfl ?_
    refine ow_getR (ci := 5) (k := 0) (T := TX6) C rfl igX6 (by decide) kw_418 dX6_ring_11 hh (fun q4 hh => ?_)
    refine ow_iload_n C dX6_ring_14 rfl rfl ?_
    refine ow_callV C (cv_X1_ringLength _) (Nat.le_of_ble_eq_true rfl) kw_423 dX6_ring_15 (as := [.int x1]) (st := []) rfl rfl (Nat.le_of_ble_eq_true rfl) hh (fun r6 h5 hq => ?_)
    obtain ⟨v7, rfl, hh⟩ := sr_I_e hq
    show Sat X 18 [.ref p0, .int x1] [.int v7] h5
    exact ow_iret Z dX6_ring_18 trivial hh
  · skip
    refine ow_iconst (v := (-1)) C dX6_ring_8 rfl ?_
    exact ow_iret Z dX6_ring_9 trivial hh
def tr_X6_ring : aw_T := fun as h Q => ∃ (p0 : Nat) (x1 : Int32), as = [.ref p0, .int x1] ∧ (sm_X6_ring_0  Q p0 x1 h)
theorem tq_X6_ring {p0 : Nat} {x1 : Int32} {h : aw_H} {Q : aw_R} : tr_X6_ring [.ref p0, .int x1] h Q ↔ (sm_X6_ring_0  Q p0 x1 h) := by
  constructor
  · rintro ⟨_, _, as0, hh⟩
    cases as0
    exact hh
  · intro hh
    exact ⟨_, _, rfl, hh⟩
theorem ct_X6_ring (E : aw_F) : CT E yX6_ring cX6_ring 2 (some .int) 5 tr_X6_ring := by
  refine ct_of (by decide) ?_
  intro X Q as h hE C Z hG
  subst hE
  obtain ⟨p0, x1, rfl, hh⟩ := hG
  refine ⟨[.ref p0, .int x1], rfl, Nat.le_of_ble_eq_true rfl, ?_⟩
  exact bl_X6_ring_0 C Z p0 x1 h hh
theorem cv_X6_ring (E : aw_F) : CV E yX6_ring cX6_ring 2 (some .int) 5 1 5 tr_X6_ring := ⟨ct_X6_ring E, by decide, kw_425, kw_426, kw_314, kw_424, by decide +kernel, _, _, rfl⟩
theorem dX6_rings_0 : decode cX6_rings 0 = .ok (.iload_n 1, 1) := by decide +kernel
theorem dX6_rings_1 : decode cX6_rings 1 = .ok (.ifCond .lt 8, 3) := by decide +kernel
theorem dX6_rings_4 : decode cX6_rings 4 = .ok (.iload_n 1, 1) := by decide +kernel
theorem dX6_rings_5 : decode cX6_rings 5 = .ok (.iconst 2, 1) := by decide +kernel
theorem dX6_rings_6 : decode cX6_rings 6 = .ok (.if_icmp .le 5, 3) := by decide +kernel
theorem dX6_rings_9 : decode cX6_rings 9 = .ok (.iconst (-1), 1) := by decide +kernel
theorem dX6_rings_10 : decode cX6_rings 10 = .ok (.ireturn, 1) := by decide +kernel
theorem dX6_rings_11 : decode cX6_rings 11 = .ok (.aload_n 0, 1) := by decide +kernel
theorem dX6_rings_12 : decode cX6_rings 12 = .ok (.getfield 10, 3) := by decide +kernel
theorem dX6_rings_15 : decode cX6_rings 15 = .ok (.invokevirtual 190, 3) := by decide +kernel
theorem dX6_rings_18 : decode cX6_rings 18 = .ok (.iload_n 1, 1) := by decide +kernel
theorem dX6_rings_19 : decode cX6_rings 19 = .ok (.ifCond .ne 11, 3) := by decide +kernel
theorem dX6_rings_22 : decode cX6_rings 22 = .ok (.aload_n 0, 1) := by decide +kernel
theorem dX6_rings_23 : decode cX6_rings 23 = .ok (.getfield 10, 3) := by decide +kernel
theorem dX6_rings_26 : decode cX6_rings 26 = .ok (.getfield 193, 3) := by decide +kernel
theorem dX6_rings_29 : decode cX6_rings 29 = .ok (.ireturn, 1) := by decide +kernel
theorem dX6_rings_30 : decode cX6_rings 30 = .ok (.iload_n 1, 1) := by decide +kernel
theorem dX6_rings_31 : decode cX6_rings 31 = .ok (.iconst 1, 1) := by decide +kernel
theorem dX6_rings_32 : decode cX6_rings 32 = .ok (.if_icmp .ne 13, 3) := by decide +kernel
theorem dX6_rings_35 : decode cX6_rings 35 = .ok (.aload_n 0, 1) := by decide +kernel
theorem dX6_rings_36 : decode cX6_rings 36 = .ok (.getfield 10, 3) := by decide +kernel
theorem dX6_rings_39 : decode cX6_rings 39 = .ok (.getfield 196, 3) := by decide +kernel
theorem dX6_rings_42 : decode cX6_rings 42 = .ok (.goto 10, 3) := by decide +kernel
theorem dX6_rings_45 : decode cX6_rings 45 = .ok (.aload_n 0, 1) := by decide +kernel
theorem dX6_rings_46 : decode cX6_rings 46 = .ok (.getfield 10, 3) := by decide +kernel
theorem dX6_rings_49 : decode cX6_rings 49 = .ok (.getfield 199, 3) := by decide +kernel
theorem dX6_rings_52 : decode cX6_rings 52 = .ok (.ireturn, 1) := by decide +kernel
def sm_X6_rings_0  (Q : aw_R) (p0 : Nat) (x1 : Int32) (h : aw_H) : Prop :=
  if x1 < 0 then (Q (some (.int ((-1)))) h) else (if x1 ≤ 2 then (sg_R h p0 5 0 fun q1 => sv_O h q1 1 (tr_X1_lookAtRings [.ref q1] h fun r3 h2 => sr_V r3 <| if ¬ x1 = 0 then (if ¬ x1 = 1 then (sg_R h2 p0 5 0 fun q4 => sg_I h2 q4 1 6 fun v5 => Q (some (.int v5)) h2) else (sg_R h2 p0 5 0 fun q6 => sg_I h2 q6 1 5 fun v7 => Q (some (.int v7)) h2)) else (sg_R h2 p0 5 0 fun q8 => sg_I h2 q8 1 4 fun v9 => Q (some (.int v9)) h2))) else (Q (some (.int ((-1)))) h))
set_option maxRecDepth 100000 in
set_option maxHeartbeats 4000000 in
theorem bl_X6_rings_0 {X : aw_X} {Q : aw_R} (C : aw_C X cX6_rings RX6 2 6) (Z : aw_Z X cX6_rings (some .int) Q) (p0 : Nat) (x1 : Int32) (h : aw_H) (hh : sm_X6_rings_0  Q p0 x1 h) : Sat X 0 [.ref p0, .int x1] [] h := by
  unfold sm_X6_rings_0 at hh
  refine ow_iload_n C dX6_rings_0 rfl rfl ?_
  refine ow_if_lt (tgt := 9) C dX6_rings_1 (by decide) hh (fun hh => ?_) (fun hh => ?_)
  · skip
    refine ow_iconst (v := (-1)) C dX6_rings_9 rfl ?_
    exact ow_iret Z dX6_rings_10 trivial hh
  · skip
    refine ow_iload_n C dX6_rings_4 rfl rfl ?_
    refine ow_iconst (v := 2) C dX6_rings_5 rfl ?_
    refine ow_icmp_le (tgt := 11) C dX6_rings_6 (by decide) hh (fun hh => ?_) (fun hh => ?_)
    · skip
      refine ow_aload_n C dX6_rings_11 rfl rfl ?_
      refine ow_getR (ci := 5) (k := 0) (T := TX6) C rfl igX6 (by decide) kw_418 dX6_rings_12 hh (fun q1 hh => ?_)
      refine ow_callV C (cv_X1_lookAtRings _) (Nat.le_of_ble_eq_true rfl) kw_427 dX6_rings_15 (as := []) (st := []) rfl rfl (Nat.le_of_ble_eq_true rfl) hh (fun r3 h2 hq => ?_)
      obtain ⟨rfl, hh⟩ := sr_V_e hq
      show Sat X 18 [.ref p0, .int x1] [] h2
      refine ow_iload_n C dX6_rings_18 rfl rfl ?_
      refine ow_if_ne (tgt := 30) C dX6_rings_19 (by decide) hh (fun hh => ?_) (fun hh => ?_)
      · skip
        refine ow_iload_n C dX6_rings_30 rfl rfl ?_
        refine ow_iconst (v := 1) C dX6_rings_31 rfl ?_
        refine ow_icmp_ne (tgt := 45) C dX6_rings_32 (by decide) hh (fun hh => ?_) (fun hh => ?_)
        · skip
          refine ow_aload_n C dX6_rings_45 rfl rfl ?_
          refine ow_getR (ci := 5) (k := 0) (T := TX6) C rfl igX6 (by decide) kw_418 dX6_rings_46 hh (fun q4 hh => ?_)
          refine ow_getI (ci := 1) (k := 6) (T := TX1) C rfl igX1 (by decide) kw_428 dX6_rings_49 hh (fun v5 hh => ?_)
          exact ow_iret Z dX6_rings_52 trivial hh
        · skip
          refine ow_aload_n C dX6_rings_35 rfl rfl ?_
          refine ow_getR (ci := 5) (k := 0) (T := TX6) C rfl igX6 (by decide) kw_418 dX6_rings_36 hh (fun q6 hh => ?_)
          refine ow_getI (ci := 1) (k := 5) (T := TX1) C rfl igX1 (by decide) kw_429 dX6_rings_39 hh (fun v7 hh => ?_)
          refine ow_goto (tgt := 52) C dX6_rings_42 (by decide) ?_
          exact ow_iret Z dX6_rings_52 trivial hh
      · skip
        refine ow_aload_n C dX6_rings_22 rfl rfl ?_
        refine ow_getR (ci := 5) (k := 0) (T := TX6) C rfl igX6 (by decide) kw_418 dX6_rings_23 hh (fun q8 hh => ?_)
        refine ow_getI (ci := 1) (k := 4) (T := TX1) C rfl igX1 (by decide) kw_430 dX6_rings_26 hh (fun v9 hh => ?_)
        exact ow_iret Z dX6_rings_29 trivial hh
    · skip
      refine ow_iconst (v := (-1)) C dX6_rings_9 rfl ?_
      exact ow_iret Z dX6_rings_10 trivial hh
def tr_X6_rings : aw_T := fun as h Q => ∃ (p0 : Nat) (x1 : Int32), as = [.ref p0, .int x1] ∧ (sm_X6_rings_0  Q p0 x1 h)
theorem tq_X6_rings {p0 : Nat} {x1 : Int32} {h : aw_H} {Q : aw_R} : tr_X6_rings [.ref p0, .int x1] h Q ↔ (sm_X6_rings_0  Q p0 x1 h) := by
  constructor
  · rintro ⟨_, _, as0, hh⟩
    cases as0
    exact hh
  · intro hh
    exact ⟨_, _, rfl, hh⟩
theorem ct_X6_rings (E : aw_F) : CT E yX6_rings cX6_rings 2 (some .int) 6 tr_X6_rings := by
  refine ct_of (by decide) ?_
  intro X Q as h hE C Z hG
  subst hE
  obtain ⟨p0, x1, rfl, hh⟩ := hG
  refine ⟨[.ref p0, .int x1], rfl, Nat.le_of_ble_eq_true rfl, ?_⟩
  exact bl_X6_rings_0 C Z p0 x1 h hh
theorem cv_X6_rings (E : aw_F) : CV E yX6_rings cX6_rings 2 (some .int) 6 1 5 tr_X6_rings := ⟨ct_X6_rings E, by decide, kw_432, kw_433, kw_314, kw_431, by decide +kernel, _, _, rfl⟩
theorem dX6_order_0 : decode cX6_order 0 = .ok (.aload_n 0, 1) := by decide +kernel
theorem dX6_order_1 : decode cX6_order 1 = .ok (.getfield 10, 3) := by decide +kernel
theorem dX6_order_4 : decode cX6_order 4 = .ok (.invokevirtual 190, 3) := by decide +kernel
theorem dX6_order_7 : decode cX6_order 7 = .ok (.aload_n 0, 1) := by decide +kernel
theorem dX6_order_8 : decode cX6_order 8 = .ok (.getfield 10, 3) := by decide +kernel
theorem dX6_order_11 : decode cX6_order 11 = .ok (.getfield 202, 3) := by decide +kernel
theorem dX6_order_14 : decode cX6_order 14 = .ok (.ireturn, 1) := by decide +kernel
def sm_X6_order_0  (Q : aw_R) (p0 : Nat) (h : aw_H) : Prop :=
  sg_R h p0 5 0 fun q1 => sv_O h q1 1 (tr_X1_lookAtRings [.ref q1] h fun r3 h2 => sr_V r3 <| sg_R h2 p0 5 0 fun q4 => sg_I h2 q4 1 7 fun v5 => Q (some (.int v5)) h2)
set_option maxRecDepth 100000 in
set_option maxHeartbeats 4000000 in
theorem bl_X6_order_0 {X : aw_X} {Q : aw_R} (C : aw_C X cX6_order RX6 1 6) (Z : aw_Z X cX6_order (some .int) Q) (p0 : Nat) (h : aw_H) (hh : sm_X6_order_0  Q p0 h) : Sat X 0 [.ref p0] [] h := by
  unfold sm_X6_order_0 at hh
  refine ow_aload_n C dX6_order_0 rfl rfl ?_
  refine ow_getR (ci := 5) (k := 0) (T := TX6) C rfl igX6 (by decide) kw_418 dX6_order_1 hh (fun q1 hh => ?_)
  refine ow_callV C (cv_X1_lookAtRings _) (Nat.le_of_ble_eq_true rfl) kw_427 dX6_order_4 (as := []) (st := []) rfl rfl (Nat.le_of_ble_eq_true rfl) hh (fun r3 h2 hq => ?_)
  obtain ⟨rfl, hh⟩ := sr_V_e hq
  show Sat X 7 [.ref p0] [] h2
  refine ow_aload_n C dX6_order_7 rfl rfl ?_
  refine ow_getR (ci := 5) (k := 0) (T := TX6) C rfl igX6 (by decide) kw_418 dX6_order_8 hh (fun q4 hh => ?_)
  refine ow_getI (ci := 1) (k := 7) (T := TX1) C rfl igX1 (by decide) kw_434 dX6_order_11 hh (fun v5 hh => ?_)
  exact ow_iret Z dX6_order_14 trivial hh
def tr_X6_order : aw_T := fun as h Q => ∃ (p0 : Nat), as = [.ref p0] ∧ (sm_X6_order_0  Q p0 h)
theorem tq_X6_order {p0 : Nat} {h : aw_H} {Q : aw_R} : tr_X6_order [.ref p0] h Q ↔ (sm_X6_order_0  Q p0 h) := by
  constructor
  · rintro ⟨_, as0, hh⟩
    cases as0
    exact hh
  · intro hh
    exact ⟨_, rfl, hh⟩
theorem ct_X6_order (E : aw_F) : CT E yX6_order cX6_order 1 (some .int) 6 tr_X6_order := by
  refine ct_of (by decide) ?_
  intro X Q as h hE C Z hG
  subst hE
  obtain ⟨p0, rfl, hh⟩ := hG
  refine ⟨[.ref p0], rfl, Nat.le_of_ble_eq_true rfl, ?_⟩
  exact bl_X6_order_0 C Z p0 h hh
theorem cv_X6_order (E : aw_F) : CV E yX6_order cX6_order 1 (some .int) 6 0 5 tr_X6_order := ⟨ct_X6_order E, by decide, kw_436, kw_437, kw_314, kw_435, by decide +kernel, _, _, rfl⟩
theorem dX6_odd_0 : decode cX6_odd 0 = .ok (.aload_n 0, 1) := by decide +kernel
theorem dX6_odd_1 : decode cX6_odd 1 = .ok (.getfield 10, 3) := by decide +kernel
theorem dX6_odd_4 : decode cX6_odd 4 = .ok (.invokevirtual 190, 3) := by decide +kernel
theorem dX6_odd_7 : decode cX6_odd 7 = .ok (.aload_n 0, 1) := by decide +kernel
theorem dX6_odd_8 : decode cX6_odd 8 = .ok (.getfield 20, 3) := by decide +kernel
theorem dX6_odd_11 : decode cX6_odd 11 = .ok (.invokevirtual 205, 3) := by decide +kernel
theorem dX6_odd_14 : decode cX6_odd 14 = .ok (.aload_n 0, 1) := by decide +kernel
theorem dX6_odd_15 : decode cX6_odd 15 = .ok (.getfield 10, 3) := by decide +kernel
theorem dX6_odd_18 : decode cX6_odd 18 = .ok (.getfield 193, 3) := by decide +kernel
theorem dX6_odd_21 : decode cX6_odd 21 = .ok (.isub, 1) := by decide +kernel
theorem dX6_odd_22 : decode cX6_odd 22 = .ok (.iconst 1, 1) := by decide +kernel
theorem dX6_odd_23 : decode cX6_odd 23 = .ok (.iand, 1) := by decide +kernel
theorem dX6_odd_24 : decode cX6_odd 24 = .ok (.ireturn, 1) := by decide +kernel
def sm_X6_odd_0  (Q : aw_R) (p0 : Nat) (h : aw_H) : Prop :=
  sg_R h p0 5 0 fun q1 => sv_O h q1 1 (tr_X1_lookAtRings [.ref q1] h fun r3 h2 => sr_V r3 <| sg_R h2 p0 5 1 fun q4 => sv_O h2 q4 0 (tr_X0_states [.ref q4] h2 fun r6 h5 => sr_I r6 fun v7 => sg_R h5 p0 5 0 fun q8 => sg_I h5 q8 1 4 fun v9 => Q (some (.int ((v7 - v9) &&& 1))) h5))
set_option maxRecDepth 100000 in
set_option maxHeartbeats 4000000 in
theorem bl_X6_odd_0 {X : aw_X} {Q : aw_R} (C : aw_C X cX6_odd RX6 1 6) (Z : aw_Z X cX6_odd (some .int) Q) (p0 : Nat) (h : aw_H) (hh : sm_X6_odd_0  Q p0 h) : Sat X 0 [.ref p0] [] h := by
  unfold sm_X6_odd_0 at hh
  refine ow_aload_n C dX6_odd_0 rfl rfl ?_
  refine ow_getR (ci := 5) (k := 0) (T := TX6) C rfl igX6 (by decide) kw_418 dX6_odd_1 hh (fun q1 hh => ?_)
  refine ow_callV C (cv_X1_lookAtRings _) (Nat.le_of_ble_eq_true rfl) kw_427 dX6_odd_4 (as := []) (st := []) rfl rfl (Nat.le_of_ble_eq_true rfl) hh (fun r3 h2 hq => ?_)
  obtain ⟨rfl, hh⟩ := sr_V_e hq
  show Sat X 7 [.ref p0] [] h2
  refine ow_aload_n C dX6_odd_7 rfl rfl ?_
  refine ow_getR (ci := 5) (k := 1) (T := TX6) C rfl igX6 (by decide) kw_308 dX6_odd_8 hh (fun q4 hh => ?_)
  refine ow_callV C (cv_X0_states _) (Nat.le_of_ble_eq_true rfl) kw_335 dX6_odd_11 (as := []) (st := []) rfl rfl (Nat.le_of_ble_eq_true rfl) hh (fun r6 h5 hq => ?_)
  obtain ⟨v7, rfl, hh⟩ := sr_I_e hq
  show Sat X 14 [.ref p0] [.int v7] h5
  refine ow_aload_n C dX6_odd_14 rfl rfl ?_
  refine ow_getR (ci := 5) (k := 0) (T := TX6) C rfl igX6 (by decide) kw_418 dX6_odd_15 hh (fun q8 hh => ?_)
  refine ow_getI (ci := 1) (k := 4) (T := TX1) C rfl igX1 (by decide) kw_430 dX6_odd_18 hh (fun v9 hh => ?_)
  refine ow_isub C dX6_odd_21 ?_
  refine ow_iconst (v := 1) C dX6_odd_22 rfl ?_
  refine ow_iand C dX6_odd_23 ?_
  exact ow_iret Z dX6_odd_24 trivial hh
def tr_X6_odd : aw_T := fun as h Q => ∃ (p0 : Nat), as = [.ref p0] ∧ (sm_X6_odd_0  Q p0 h)
theorem tq_X6_odd {p0 : Nat} {h : aw_H} {Q : aw_R} : tr_X6_odd [.ref p0] h Q ↔ (sm_X6_odd_0  Q p0 h) := by
  constructor
  · rintro ⟨_, as0, hh⟩
    cases as0
    exact hh
  · intro hh
    exact ⟨_, rfl, hh⟩
theorem ct_X6_odd (E : aw_F) : CT E yX6_odd cX6_odd 1 (some .int) 6 tr_X6_odd := by
  refine ct_of (by decide) ?_
  intro X Q as h hE C Z hG
  subst hE
  obtain ⟨p0, rfl, hh⟩ := hG
  refine ⟨[.ref p0], rfl, Nat.le_of_ble_eq_true rfl, ?_⟩
  exact bl_X6_odd_0 C Z p0 h hh
theorem cv_X6_odd (E : aw_F) : CV E yX6_odd cX6_odd 1 (some .int) 6 0 5 tr_X6_odd := ⟨ct_X6_odd E, by decide, kw_439, kw_440, kw_314, kw_438, by decide +kernel, _, _, rfl⟩
theorem dX6_alike_0 : decode cX6_alike 0 = .ok (.aload_n 0, 1) := by decide +kernel
theorem dX6_alike_1 : decode cX6_alike 1 = .ok (.iload_n 1, 1) := by decide +kernel
theorem dX6_alike_2 : decode cX6_alike 2 = .ok (.iload_n 2, 1) := by decide +kernel
theorem dX6_alike_3 : decode cX6_alike 3 = .ok (.invokevirtual 167, 3) := by decide +kernel
theorem dX6_alike_6 : decode cX6_alike 6 = .ok (.ifCond .ne 5, 3) := by decide +kernel
theorem dX6_alike_9 : decode cX6_alike 9 = .ok (.iconst (-1), 1) := by decide +kernel
theorem dX6_alike_10 : decode cX6_alike 10 = .ok (.ireturn, 1) := by decide +kernel
theorem dX6_alike_11 : decode cX6_alike 11 = .ok (.aload_n 0, 1) := by decide +kernel
theorem dX6_alike_12 : decode cX6_alike 12 = .ok (.getfield 10, 3) := by decide +kernel
theorem dX6_alike_15 : decode cX6_alike 15 = .ok (.iload_n 1, 1) := by decide +kernel
theorem dX6_alike_16 : decode cX6_alike 16 = .ok (.iload_n 2, 1) := by decide +kernel
theorem dX6_alike_17 : decode cX6_alike 17 = .ok (.invokevirtual 208, 3) := by decide +kernel
theorem dX6_alike_20 : decode cX6_alike 20 = .ok (.ifCond .eq 7, 3) := by decide +kernel
theorem dX6_alike_23 : decode cX6_alike 23 = .ok (.iconst 1, 1) := by decide +kernel
theorem dX6_alike_24 : decode cX6_alike 24 = .ok (.goto 4, 3) := by decide +kernel
theorem dX6_alike_27 : decode cX6_alike 27 = .ok (.iconst 0, 1) := by decide +kernel
theorem dX6_alike_28 : decode cX6_alike 28 = .ok (.ireturn, 1) := by decide +kernel
def sm_X6_alike_0  (Q : aw_R) (p0 : Nat) (x1 : Int32) (x2 : Int32) (h : aw_H) : Prop :=
  sv_O h p0 5 (tr_X6_areTwoGates [.ref p0, .int x1, .int x2] h fun r2 h1 => sr_I r2 fun v3 => if ¬ v3 = 0 then (sg_R h1 p0 5 0 fun q4 => sv_O h1 q4 1 (tr_X1_mayChangePlaces [.ref q4, .int x1, .int x2] h1 fun r6 h5 => sr_I r6 fun v7 => if v7 = 0 then (Q (some (.int 0)) h5) else (Q (some (.int 1)) h5))) else (Q (some (.int ((-1)))) h1))
set_option maxRecDepth 100000 in
set_option maxHeartbeats 4000000 in
theorem bl_X6_alike_0 {X : aw_X} {Q : aw_R} (C : aw_C X cX6_alike RX6 3 5) (Z : aw_Z X cX6_alike (some .int) Q) (p0 : Nat) (x1 : Int32) (x2 : Int32) (h : aw_H) (hh : sm_X6_alike_0  Q p0 x1 x2 h) : Sat X 0 [.ref p0, .int x1, .int x2] [] h := by
  unfold sm_X6_alike_0 at hh
  refine ow_aload_n C dX6_alike_0 rfl rfl ?_
  refine ow_iload_n C dX6_alike_1 rfl rfl ?_
  refine ow_iload_n C dX6_alike_2 rfl rfl ?_
  refine ow_callV C (cv_X6_areTwoGates _) (Nat.le_of_ble_eq_true rfl) kw_397 dX6_alike_3 (as := [.int x1, .int x2]) (st := []) rfl rfl (Nat.le_of_ble_eq_true rfl) hh (fun r2 h1 hq => ?_)
  obtain ⟨v3, rfl, hh⟩ := sr_I_e hq
  show Sat X 6 [.ref p0, .int x1, .int x2] [.int v3] h1
  refine ow_if_ne (tgt := 11) C dX6_alike_6 (by decide) hh (fun hh => ?_) (fun hh => ?_)
  · skip
    refine ow_aload_n C dX6_alike_11 rfl rfl ?_
    refine ow_getR (ci := 5) (k := 0) (T := TX6) C rfl igX6 (by decide) kw_418 dX6_alike_12 hh (fun q4 hh => ?_)
    refine ow_iload_n C dX6_alike_15 rfl rfl ?_
    refine ow_iload_n C dX6_alike_16 rfl rfl ?_
    refine ow_callV C (cv_X1_mayChangePlaces _) (Nat.le_of_ble_eq_true rfl) kw_441 dX6_alike_17 (as := [.int x1, .int x2]) (st := []) rfl rfl (Nat.le_of_ble_eq_true rfl) hh (fun r6 h5 hq => ?_)
    obtain ⟨v7, rfl, hh⟩ := sr_I_e hq
    show Sat X 20 [.ref p0, .int x1, .int x2] [.int v7] h5
    refine ow_if_eq (tgt := 27) C dX6_alike_20 (by decide) hh (fun hh => ?_) (fun hh => ?_)
    · skip
      refine ow_iconst (v := 0) C dX6_alike_27 rfl ?_
      exact ow_iret Z dX6_alike_28 trivial hh
    · skip
      refine ow_iconst (v := 1) C dX6_alike_23 rfl ?_
      refine ow_goto (tgt := 28) C dX6_alike_24 (by decide) ?_
      exact ow_iret Z dX6_alike_28 trivial hh
  · skip
    refine ow_iconst (v := (-1)) C dX6_alike_9 rfl ?_
    exact ow_iret Z dX6_alike_10 trivial hh
def tr_X6_alike : aw_T := fun as h Q => ∃ (p0 : Nat) (x1 : Int32) (x2 : Int32), as = [.ref p0, .int x1, .int x2] ∧ (sm_X6_alike_0  Q p0 x1 x2 h)
theorem tq_X6_alike {p0 : Nat} {x1 : Int32} {x2 : Int32} {h : aw_H} {Q : aw_R} : tr_X6_alike [.ref p0, .int x1, .int x2] h Q ↔ (sm_X6_alike_0  Q p0 x1 x2 h) := by
  constructor
  · rintro ⟨_, _, _, as0, hh⟩
    cases as0
    exact hh
  · intro hh
    exact ⟨_, _, _, rfl, hh⟩
theorem ct_X6_alike (E : aw_F) : CT E yX6_alike cX6_alike 3 (some .int) 5 tr_X6_alike := by
  refine ct_of (by decide) ?_
  intro X Q as h hE C Z hG
  subst hE
  obtain ⟨p0, x1, x2, rfl, hh⟩ := hG
  refine ⟨[.ref p0, .int x1, .int x2], rfl, Nat.le_of_ble_eq_true rfl, ?_⟩
  exact bl_X6_alike_0 C Z p0 x1 x2 h hh
theorem cv_X6_alike (E : aw_F) : CV E yX6_alike cX6_alike 3 (some .int) 5 2 5 tr_X6_alike := ⟨ct_X6_alike E, by decide, kw_443, kw_444, kw_314, kw_442, by decide +kernel, _, _, rfl⟩
theorem dX6_pair_0 : decode cX6_pair 0 = .ok (.aload_n 0, 1) := by decide +kernel
theorem dX6_pair_1 : decode cX6_pair 1 = .ok (.getfield 10, 3) := by decide +kernel
theorem dX6_pair_4 : decode cX6_pair 4 = .ok (.invokevirtual 211, 3) := by decide +kernel
theorem dX6_pair_7 : decode cX6_pair 7 = .ok (.ireturn, 1) := by decide +kernel
def sm_X6_pair_0  (Q : aw_R) (p0 : Nat) (h : aw_H) : Prop :=
  sg_R h p0 5 0 fun q1 => sv_O h q1 1 (tr_X1_firstPair [.ref q1] h fun r3 h2 => sr_I r3 fun v4 => Q (some (.int v4)) h2)
set_option maxRecDepth 100000 in
set_option maxHeartbeats 4000000 in
theorem bl_X6_pair_0 {X : aw_X} {Q : aw_R} (C : aw_C X cX6_pair RX6 1 5) (Z : aw_Z X cX6_pair (some .int) Q) (p0 : Nat) (h : aw_H) (hh : sm_X6_pair_0  Q p0 h) : Sat X 0 [.ref p0] [] h := by
  unfold sm_X6_pair_0 at hh
  refine ow_aload_n C dX6_pair_0 rfl rfl ?_
  refine ow_getR (ci := 5) (k := 0) (T := TX6) C rfl igX6 (by decide) kw_418 dX6_pair_1 hh (fun q1 hh => ?_)
  refine ow_callV C (cv_X1_firstPair _) (Nat.le_of_ble_eq_true rfl) kw_445 dX6_pair_4 (as := []) (st := []) rfl rfl (Nat.le_of_ble_eq_true rfl) hh (fun r3 h2 hq => ?_)
  obtain ⟨v4, rfl, hh⟩ := sr_I_e hq
  show Sat X 7 [.ref p0] [.int v4] h2
  exact ow_iret Z dX6_pair_7 trivial hh
def tr_X6_pair : aw_T := fun as h Q => ∃ (p0 : Nat), as = [.ref p0] ∧ (sm_X6_pair_0  Q p0 h)
theorem tq_X6_pair {p0 : Nat} {h : aw_H} {Q : aw_R} : tr_X6_pair [.ref p0] h Q ↔ (sm_X6_pair_0  Q p0 h) := by
  constructor
  · rintro ⟨_, as0, hh⟩
    cases as0
    exact hh
  · intro hh
    exact ⟨_, rfl, hh⟩
theorem ct_X6_pair (E : aw_F) : CT E yX6_pair cX6_pair 1 (some .int) 5 tr_X6_pair := by
  refine ct_of (by decide) ?_
  intro X Q as h hE C Z hG
  subst hE
  obtain ⟨p0, rfl, hh⟩ := hG
  refine ⟨[.ref p0], rfl, Nat.le_of_ble_eq_true rfl, ?_⟩
  exact bl_X6_pair_0 C Z p0 h hh
theorem cv_X6_pair (E : aw_F) : CV E yX6_pair cX6_pair 1 (some .int) 5 0 5 tr_X6_pair := ⟨ct_X6_pair E, by decide, kw_447, kw_448, kw_314, kw_446, by decide +kernel, _, _, rfl⟩
theorem dX6_hangs_0 : decode cX6_hangs 0 = .ok (.aload_n 0, 1) := by decide +kernel
theorem dX6_hangs_1 : decode cX6_hangs 1 = .ok (.iload_n 1, 1) := by decide +kernel
theorem dX6_hangs_2 : decode cX6_hangs 2 = .ok (.invokevirtual 155, 3) := by decide +kernel
theorem dX6_hangs_5 : decode cX6_hangs 5 = .ok (.ifCond .eq 12, 3) := by decide +kernel
theorem dX6_hangs_8 : decode cX6_hangs 8 = .ok (.iload_n 2, 1) := by decide +kernel
theorem dX6_hangs_9 : decode cX6_hangs 9 = .ok (.ifCond .lt 8, 3) := by decide +kernel
theorem dX6_hangs_12 : decode cX6_hangs 12 = .ok (.iload_n 2, 1) := by decide +kernel
theorem dX6_hangs_13 : decode cX6_hangs 13 = .ok (.iconst 1, 1) := by decide +kernel
theorem dX6_hangs_14 : decode cX6_hangs 14 = .ok (.if_icmp .le 5, 3) := by decide +kernel
theorem dX6_hangs_17 : decode cX6_hangs 17 = .ok (.iconst (-1), 1) := by decide +kernel
theorem dX6_hangs_18 : decode cX6_hangs 18 = .ok (.ireturn, 1) := by decide +kernel
theorem dX6_hangs_19 : decode cX6_hangs 19 = .ok (.iload_n 2, 1) := by decide +kernel
theorem dX6_hangs_20 : decode cX6_hangs 20 = .ok (.ifCond .ne 14, 3) := by decide +kernel
theorem dX6_hangs_23 : decode cX6_hangs 23 = .ok (.aload_n 0, 1) := by decide +kernel
theorem dX6_hangs_24 : decode cX6_hangs 24 = .ok (.getfield 10, 3) := by decide +kernel
theorem dX6_hangs_27 : decode cX6_hangs 27 = .ok (.iload_n 1, 1) := by decide +kernel
theorem dX6_hangs_28 : decode cX6_hangs 28 = .ok (.invokevirtual 214, 3) := by decide +kernel
theorem dX6_hangs_31 : decode cX6_hangs 31 = .ok (.goto 11, 3) := by decide +kernel
theorem dX6_hangs_34 : decode cX6_hangs 34 = .ok (.aload_n 0, 1) := by decide +kernel
theorem dX6_hangs_35 : decode cX6_hangs 35 = .ok (.getfield 10, 3) := by decide +kernel
theorem dX6_hangs_38 : decode cX6_hangs 38 = .ok (.iload_n 1, 1) := by decide +kernel
theorem dX6_hangs_39 : decode cX6_hangs 39 = .ok (.invokevirtual 217, 3) := by decide +kernel
theorem dX6_hangs_42 : decode cX6_hangs 42 = .ok (.ireturn, 1) := by decide +kernel
def sm_X6_hangs_0  (Q : aw_R) (p0 : Nat) (x1 : Int32) (x2 : Int32) (h : aw_H) : Prop :=
  sv_O h p0 5 (tr_X6_isWire [.ref p0, .int x1] h fun r2 h1 => sr_I r2 fun v3 => if v3 = 0 then (Q (some (.int ((-1)))) h1) else (if x2 < 0 then (Q (some (.int ((-1)))) h1) else (if x2 ≤ 1 then (if ¬ x2 = 0 then (sg_R h1 p0 5 0 fun q4 => sv_O h1 q4 1 (tr_X1_turnedStates [.ref q4, .int x1] h1 fun r6 h5 => sr_I r6 fun v7 => Q (some (.int v7)) h5)) else (sg_R h1 p0 5 0 fun q8 => sv_O h1 q8 1 (tr_X1_hangsOn [.ref q8, .int x1] h1 fun r10 h9 => sr_I r10 fun v11 => Q (some (.int v11)) h9))) else (Q (some (.int ((-1)))) h1))))
set_option maxRecDepth 100000 in
set_option maxHeartbeats 4000000 in
theorem bl_X6_hangs_0 {X : aw_X} {Q : aw_R} (C : aw_C X cX6_hangs RX6 3 6) (Z : aw_Z X cX6_hangs (some .int) Q) (p0 : Nat) (x1 : Int32) (x2 : Int32) (h : aw_H) (hh : sm_X6_hangs_0  Q p0 x1 x2 h) : Sat X 0 [.ref p0, .int x1, .int x2] [] h := by
  unfold sm_X6_hangs_0 at hh
  refine ow_aload_n C dX6_hangs_0 rfl rfl ?_
  refine ow_iload_n C dX6_hangs_1 rfl rfl ?_
  refine ow_callV C (cv_X6_isWire _) (Nat.le_of_ble_eq_true rfl) kw_381 dX6_hangs_2 (as := [.int x1]) (st := []) rfl rfl (Nat.le_of_ble_eq_true rfl) hh (fun r2 h1 hq => ?_)
  obtain ⟨v3, rfl, hh⟩ := sr_I_e hq
  show Sat X 5 [.ref p0, .int x1, .int x2] [.int v3] h1
  refine ow_if_eq (tgt := 17) C dX6_hangs_5 (by decide) hh (fun hh => ?_) (fun hh => ?_)
  · skip
    refine ow_iconst (v := (-1)) C dX6_hangs_17 rfl ?_
    exact ow_iret Z dX6_hangs_18 trivial hh
  · skip
    refine ow_iload_n C dX6_hangs_8 rfl rfl ?_
    refine ow_if_lt (tgt := 17) C dX6_hangs_9 (by decide) hh (fun hh => ?_) (fun hh => ?_)
    · skip
      refine ow_iconst (v := (-1)) C dX6_hangs_17 rfl ?_
      exact ow_iret Z dX6_hangs_18 trivial hh
    · skip
      refine ow_iload_n C dX6_hangs_12 rfl rfl ?_
      refine ow_iconst (v := 1) C dX6_hangs_13 rfl ?_
      refine ow_icmp_le (tgt := 19) C dX6_hangs_14 (by decide) hh (fun hh => ?_) (fun hh => ?_)
      · skip
        refine ow_iload_n C dX6_hangs_19 rfl rfl ?_
        refine ow_if_ne (tgt := 34) C dX6_hangs_20 (by decide) hh (fun hh => ?_) (fun hh => ?_)
        · skip
          refine ow_aload_n C dX6_hangs_34 rfl rfl ?_
          refine ow_getR (ci := 5) (k := 0) (T := TX6) C rfl igX6 (by decide) kw_418 dX6_hangs_35 hh (fun q4 hh => ?_)
          refine ow_iload_n C dX6_hangs_38 rfl rfl ?_
          refine ow_callV C (cv_X1_turnedStates _) (Nat.le_of_ble_eq_true rfl) kw_449 dX6_hangs_39 (as := [.int x1]) (st := []) rfl rfl (Nat.le_of_ble_eq_true rfl) hh (fun r6 h5 hq => ?_)
          obtain ⟨v7, rfl, hh⟩ := sr_I_e hq
          show Sat X 42 [.ref p0, .int x1, .int x2] [.int v7] h5
          exact ow_iret Z dX6_hangs_42 trivial hh
        · skip
          refine ow_aload_n C dX6_hangs_23 rfl rfl ?_
          refine ow_getR (ci := 5) (k := 0) (T := TX6) C rfl igX6 (by decide) kw_418 dX6_hangs_24 hh (fun q8 hh => ?_)
          refine ow_iload_n C dX6_hangs_27 rfl rfl ?_
          refine ow_callV C (cv_X1_hangsOn _) (Nat.le_of_ble_eq_true rfl) kw_450 dX6_hangs_28 (as := [.int x1]) (st := []) rfl rfl (Nat.le_of_ble_eq_true rfl) hh (fun r10 h9 hq => ?_)
          obtain ⟨v11, rfl, hh⟩ := sr_I_e hq
          show Sat X 31 [.ref p0, .int x1, .int x2] [.int v11] h9
          refine ow_goto (tgt := 42) C dX6_hangs_31 (by decide) ?_
          exact ow_iret Z dX6_hangs_42 trivial hh
      · skip
        refine ow_iconst (v := (-1)) C dX6_hangs_17 rfl ?_
        exact ow_iret Z dX6_hangs_18 trivial hh
def tr_X6_hangs : aw_T := fun as h Q => ∃ (p0 : Nat) (x1 : Int32) (x2 : Int32), as = [.ref p0, .int x1, .int x2] ∧ (sm_X6_hangs_0  Q p0 x1 x2 h)
theorem tq_X6_hangs {p0 : Nat} {x1 : Int32} {x2 : Int32} {h : aw_H} {Q : aw_R} : tr_X6_hangs [.ref p0, .int x1, .int x2] h Q ↔ (sm_X6_hangs_0  Q p0 x1 x2 h) := by
  constructor
  · rintro ⟨_, _, _, as0, hh⟩
    cases as0
    exact hh
  · intro hh
    exact ⟨_, _, _, rfl, hh⟩
theorem ct_X6_hangs (E : aw_F) : CT E yX6_hangs cX6_hangs 3 (some .int) 6 tr_X6_hangs := by
  refine ct_of (by decide) ?_
  intro X Q as h hE C Z hG
  subst hE
  obtain ⟨p0, x1, x2, rfl, hh⟩ := hG
  refine ⟨[.ref p0, .int x1, .int x2], rfl, Nat.le_of_ble_eq_true rfl, ?_⟩
  exact bl_X6_hangs_0 C Z p0 x1 x2 h hh
theorem cv_X6_hangs (E : aw_F) : CV E yX6_hangs cX6_hangs 3 (some .int) 6 2 5 tr_X6_hangs := ⟨ct_X6_hangs E, by decide, kw_452, kw_453, kw_314, kw_451, by decide +kernel, _, _, rfl⟩
theorem dX6_way_0 : decode cX6_way 0 = .ok (.aload_n 0, 1) := by decide +kernel
theorem dX6_way_1 : decode cX6_way 1 = .ok (.iload_n 1, 1) := by decide +kernel
theorem dX6_way_2 : decode cX6_way 2 = .ok (.invokevirtual 102, 3) := by decide +kernel
theorem dX6_way_5 : decode cX6_way 5 = .ok (.ifCond .eq 16, 3) := by decide +kernel
theorem dX6_way_8 : decode cX6_way 8 = .ok (.aload_n 0, 1) := by decide +kernel
theorem dX6_way_9 : decode cX6_way 9 = .ok (.iload_n 2, 1) := by decide +kernel
theorem dX6_way_10 : decode cX6_way 10 = .ok (.invokevirtual 102, 3) := by decide +kernel
theorem dX6_way_13 : decode cX6_way 13 = .ok (.ifCond .eq 8, 3) := by decide +kernel
theorem dX6_way_16 : decode cX6_way 16 = .ok (.iload_n 3, 1) := by decide +kernel
theorem dX6_way_17 : decode cX6_way 17 = .ok (.iconst (-1), 1) := by decide +kernel
theorem dX6_way_18 : decode cX6_way 18 = .ok (.if_icmp .ge 5, 3) := by decide +kernel
theorem dX6_way_21 : decode cX6_way 21 = .ok (.iconst (-1), 1) := by decide +kernel
theorem dX6_way_22 : decode cX6_way 22 = .ok (.ireturn, 1) := by decide +kernel
theorem dX6_way_23 : decode cX6_way 23 = .ok (.iload_n 3, 1) := by decide +kernel
theorem dX6_way_24 : decode cX6_way 24 = .ok (.iconst (-1), 1) := by decide +kernel
theorem dX6_way_25 : decode cX6_way 25 = .ok (.if_icmp .ne 15, 3) := by decide +kernel
theorem dX6_way_28 : decode cX6_way 28 = .ok (.aload_n 0, 1) := by decide +kernel
theorem dX6_way_29 : decode cX6_way 29 = .ok (.getfield 10, 3) := by decide +kernel
theorem dX6_way_32 : decode cX6_way 32 = .ok (.iload_n 1, 1) := by decide +kernel
theorem dX6_way_33 : decode cX6_way 33 = .ok (.iload_n 2, 1) := by decide +kernel
theorem dX6_way_34 : decode cX6_way 34 = .ok (.invokevirtual 220, 3) := by decide +kernel
theorem dX6_way_37 : decode cX6_way 37 = .ok (.goto 13, 3) := by decide +kernel
theorem dX6_way_40 : decode cX6_way 40 = .ok (.aload_n 0, 1) := by decide +kernel
theorem dX6_way_41 : decode cX6_way 41 = .ok (.getfield 10, 3) := by decide +kernel
theorem dX6_way_44 : decode cX6_way 44 = .ok (.iload_n 1, 1) := by decide +kernel
theorem dX6_way_45 : decode cX6_way 45 = .ok (.iload_n 2, 1) := by decide +kernel
theorem dX6_way_46 : decode cX6_way 46 = .ok (.iload_n 3, 1) := by decide +kernel
theorem dX6_way_47 : decode cX6_way 47 = .ok (.invokevirtual 223, 3) := by decide +kernel
theorem dX6_way_50 : decode cX6_way 50 = .ok (.ireturn, 1) := by decide +kernel
def sm_X6_way_0  (Q : aw_R) (p0 : Nat) (x1 : Int32) (x2 : Int32) (x3 : Int32) (h : aw_H) : Prop :=
  sv_O h p0 5 (tr_X6_isState [.ref p0, .int x1] h fun r2 h1 => sr_I r2 fun v3 => if v3 = 0 then (Q (some (.int ((-1)))) h1) else (sv_O h1 p0 5 (tr_X6_isState [.ref p0, .int x2] h1 fun r5 h4 => sr_I r5 fun v6 => if v6 = 0 then (Q (some (.int ((-1)))) h4) else (if ((-1)) ≤ x3 then (if ¬ x3 = ((-1)) then (sg_R h4 p0 5 0 fun q7 => sv_O h4 q7 1 (tr_X1_wayGate [.ref q7, .int x1, .int x2, .int x3] h4 fun r9 h8 => sr_I r9 fun v10 => Q (some (.int v10)) h8)) else (sg_R h4 p0 5 0 fun q11 => sv_O h4 q11 1 (tr_X1_wayLength [.ref q11, .int x1, .int x2] h4 fun r13 h12 => sr_I r13 fun v14 => Q (some (.int v14)) h12))) else (Q (some (.int ((-1)))) h4)))))
set_option maxRecDepth 100000 in
set_option maxHeartbeats 4000000 in
theorem bl_X6_way_0 {X : aw_X} {Q : aw_R} (C : aw_C X cX6_way RX6 4 6) (Z : aw_Z X cX6_way (some .int) Q) (p0 : Nat) (x1 : Int32) (x2 : Int32) (x3 : Int32) (h : aw_H) (hh : sm_X6_way_0  Q p0 x1 x2 x3 h) : Sat X 0 [.ref p0, .int x1, .int x2, .int x3] [] h := by
  unfold sm_X6_way_0 at hh
  refine ow_aload_n C dX6_way_0 rfl rfl ?_
  refine ow_iload_n C dX6_way_1 rfl rfl ?_
  refine ow_callV C (cv_X6_isState _) (Nat.le_of_ble_eq_true rfl) kw_339 dX6_way_2 (as := [.int x1]) (st := []) rfl rfl (Nat.le_of_ble_eq_true rfl) hh (fun r2 h1 hq => ?_)
  obtain ⟨v3, rfl, hh⟩ := sr_I_e hq
  show Sat X 5 [.ref p0, .int x1, .int x2, .int x3] [.int v3] h1
  refine ow_if_eq (tgt := 21) C dX6_way_5 (by decide) hh (fun hh => ?_) (fun hh => ?_)
  · skip
    refine ow_iconst (v := (-1)) C dX6_way_21 rfl ?_
    exact ow_iret Z dX6_way_22 trivial hh
  · skip
    refine ow_aload_n C dX6_way_8 rfl rfl ?_
    refine ow_iload_n C dX6_way_9 rfl rfl ?_
    refine ow_callV C (cv_X6_isState _) (Nat.le_of_ble_eq_true rfl) kw_339 dX6_way_10 (as := [.int x2]) (st := []) rfl rfl (Nat.le_of_ble_eq_true rfl) hh (fun r5 h4 hq => ?_)
    obtain ⟨v6, rfl, hh⟩ := sr_I_e hq
    show Sat X 13 [.ref p0, .int x1, .int x2, .int x3] [.int v6] h4
    refine ow_if_eq (tgt := 21) C dX6_way_13 (by decide) hh (fun hh => ?_) (fun hh => ?_)
    · skip
      refine ow_iconst (v := (-1)) C dX6_way_21 rfl ?_
      exact ow_iret Z dX6_way_22 trivial hh
    · skip
      refine ow_iload_n C dX6_way_16 rfl rfl ?_
      refine ow_iconst (v := (-1)) C dX6_way_17 rfl ?_
      refine ow_icmp_ge (tgt := 23) C dX6_way_18 (by decide) hh (fun hh => ?_) (fun hh => ?_)
      · skip
        refine ow_iload_n C dX6_way_23 rfl rfl ?_
        refine ow_iconst (v := (-1)) C dX6_way_24 rfl ?_
        refine ow_icmp_ne (tgt := 40) C dX6_way_25 (by decide) hh (fun hh => ?_) (fun hh => ?_)
        · skip
          refine ow_aload_n C dX6_way_40 rfl rfl ?_
          refine ow_getR (ci := 5) (k := 0) (T := TX6) C rfl igX6 (by decide) kw_418 dX6_way_41 hh (fun q7 hh => ?_)
          refine ow_iload_n C dX6_way_44 rfl rfl ?_
          refine ow_iload_n C dX6_way_45 rfl rfl ?_
          refine ow_iload_n C dX6_way_46 rfl rfl ?_
          refine ow_callV C (cv_X1_wayGate _) (Nat.le_of_ble_eq_true rfl) kw_454 dX6_way_47 (as := [.int x1, .int x2, .int x3]) (st := []) rfl rfl (Nat.le_of_ble_eq_true rfl) hh (fun r9 h8 hq => ?_)
          obtain ⟨v10, rfl, hh⟩ := sr_I_e hq
          show Sat X 50 [.ref p0, .int x1, .int x2, .int x3] [.int v10] h8
          exact ow_iret Z dX6_way_50 trivial hh
        · skip
          refine ow_aload_n C dX6_way_28 rfl rfl ?_
          refine ow_getR (ci := 5) (k := 0) (T := TX6) C rfl igX6 (by decide) kw_418 dX6_way_29 hh (fun q11 hh => ?_)
          refine ow_iload_n C dX6_way_32 rfl rfl ?_
          refine ow_iload_n C dX6_way_33 rfl rfl ?_
          refine ow_callV C (cv_X1_wayLength _) (Nat.le_of_ble_eq_true rfl) kw_455 dX6_way_34 (as := [.int x1, .int x2]) (st := []) rfl rfl (Nat.le_of_ble_eq_true rfl) hh (fun r13 h12 hq => ?_)
          obtain ⟨v14, rfl, hh⟩ := sr_I_e hq
          show Sat X 37 [.ref p0, .int x1, .int x2, .int x3] [.int v14] h12
          refine ow_goto (tgt := 50) C dX6_way_37 (by decide) ?_
          exact ow_iret Z dX6_way_50 trivial hh
      · skip
        refine ow_iconst (v := (-1)) C dX6_way_21 rfl ?_
        exact ow_iret Z dX6_way_22 trivial hh
def tr_X6_way : aw_T := fun as h Q => ∃ (p0 : Nat) (x1 : Int32) (x2 : Int32) (x3 : Int32), as = [.ref p0, .int x1, .int x2, .int x3] ∧ (sm_X6_way_0  Q p0 x1 x2 x3 h)
theorem tq_X6_way {p0 : Nat} {x1 : Int32} {x2 : Int32} {x3 : Int32} {h : aw_H} {Q : aw_R} : tr_X6_way [.ref p0, .int x1, .int x2, .int x3] h Q ↔ (sm_X6_way_0  Q p0 x1 x2 x3 h) := by
  constructor
  · rintro ⟨_, _, _, _, as0, hh⟩
    cases as0
    exact hh
  · intro hh
    exact ⟨_, _, _, _, rfl, hh⟩
theorem ct_X6_way (E : aw_F) : CT E yX6_way cX6_way 4 (some .int) 6 tr_X6_way := by
  refine ct_of (by decide) ?_
  intro X Q as h hE C Z hG
  subst hE
  obtain ⟨p0, x1, x2, x3, rfl, hh⟩ := hG
  refine ⟨[.ref p0, .int x1, .int x2, .int x3], rfl, Nat.le_of_ble_eq_true rfl, ?_⟩
  exact bl_X6_way_0 C Z p0 x1 x2 x3 h hh
theorem cv_X6_way (E : aw_F) : CV E yX6_way cX6_way 4 (some .int) 6 3 5 tr_X6_way := ⟨ct_X6_way E, by decide, kw_457, kw_458, kw_314, kw_456, by decide +kernel, _, _, rfl⟩
theorem dX6_reach_0 : decode cX6_reach 0 = .ok (.aload_n 0, 1) := by decide +kernel
theorem dX6_reach_1 : decode cX6_reach 1 = .ok (.iload_n 1, 1) := by decide +kernel
theorem dX6_reach_2 : decode cX6_reach 2 = .ok (.invokevirtual 102, 3) := by decide +kernel
theorem dX6_reach_5 : decode cX6_reach 5 = .ok (.ifCond .ne 5, 3) := by decide +kernel
theorem dX6_reach_8 : decode cX6_reach 8 = .ok (.iconst (-1), 1) := by decide +kernel
theorem dX6_reach_9 : decode cX6_reach 9 = .ok (.ireturn, 1) := by decide +kernel
theorem dX6_reach_10 : decode cX6_reach 10 = .ok (.aload_n 0, 1) := by decide +kernel
theorem dX6_reach_11 : decode cX6_reach 11 = .ok (.getfield 10, 3) := by decide +kernel
theorem dX6_reach_14 : decode cX6_reach 14 = .ok (.iload_n 1, 1) := by decide +kernel
theorem dX6_reach_15 : decode cX6_reach 15 = .ok (.invokevirtual 227, 3) := by decide +kernel
theorem dX6_reach_18 : decode cX6_reach 18 = .ok (.ireturn, 1) := by decide +kernel
def sm_X6_reach_0  (Q : aw_R) (p0 : Nat) (x1 : Int32) (h : aw_H) : Prop :=
  sv_O h p0 5 (tr_X6_isState [.ref p0, .int x1] h fun r2 h1 => sr_I r2 fun v3 => if ¬ v3 = 0 then (sg_R h1 p0 5 0 fun q4 => sv_O h1 q4 1 (tr_X1_spreadFrom [.ref q4, .int x1] h1 fun r6 h5 => sr_I r6 fun v7 => Q (some (.int v7)) h5)) else (Q (some (.int ((-1)))) h1))
set_option maxRecDepth 100000 in
set_option maxHeartbeats 4000000 in
theorem bl_X6_reach_0 {X : aw_X} {Q : aw_R} (C : aw_C X cX6_reach RX6 2 4) (Z : aw_Z X cX6_reach (some .int) Q) (p0 : Nat) (x1 : Int32) (h : aw_H) (hh : sm_X6_reach_0  Q p0 x1 h) : Sat X 0 [.ref p0, .int x1] [] h := by
  unfold sm_X6_reach_0 at hh
  refine ow_aload_n C dX6_reach_0 rfl rfl ?_
  refine ow_iload_n C dX6_reach_1 rfl rfl ?_
  refine ow_callV C (cv_X6_isState _) (Nat.le_of_ble_eq_true rfl) kw_339 dX6_reach_2 (as := [.int x1]) (st := []) rfl rfl (Nat.le_of_ble_eq_true rfl) hh (fun r2 h1 hq => ?_)
  obtain ⟨v3, rfl, hh⟩ := sr_I_e hq
  show Sat X 5 [.ref p0, .int x1] [.int v3] h1
  refine ow_if_ne (tgt := 10) C dX6_reach_5 (by decide) hh (fun hh => ?_) (fun hh => ?_)
  · skip
    refine ow_aload_n C dX6_reach_10 rfl rfl ?_
    refine ow_getR (ci := 5) (k := 0) (T := TX6) C rfl igX6 (by decide) kw_418 dX6_reach_11 hh (fun q4 hh => ?_)
    refine ow_iload_n C dX6_reach_14 rfl rfl ?_
    refine ow_callV C (cv_X1_spreadFrom _) (Nat.le_of_ble_eq_true rfl) kw_459 dX6_reach_15 (as := [.int x1]) (st := []) rfl rfl (Nat.le_of_ble_eq_true rfl) hh (fun r6 h5 hq => ?_)
    obtain ⟨v7, rfl, hh⟩ := sr_I_e hq
    show Sat X 18 [.ref p0, .int x1] [.int v7] h5
    exact ow_iret Z dX6_reach_18 trivial hh
  · skip
    refine ow_iconst (v := (-1)) C dX6_reach_8 rfl ?_
    exact ow_iret Z dX6_reach_9 trivial hh
def tr_X6_reach : aw_T := fun as h Q => ∃ (p0 : Nat) (x1 : Int32), as = [.ref p0, .int x1] ∧ (sm_X6_reach_0  Q p0 x1 h)
theorem tq_X6_reach {p0 : Nat} {x1 : Int32} {h : aw_H} {Q : aw_R} : tr_X6_reach [.ref p0, .int x1] h Q ↔ (sm_X6_reach_0  Q p0 x1 h) := by
  constructor
  · rintro ⟨_, _, as0, hh⟩
    cases as0
    exact hh
  · intro hh
    exact ⟨_, _, rfl, hh⟩
theorem ct_X6_reach (E : aw_F) : CT E yX6_reach cX6_reach 2 (some .int) 4 tr_X6_reach := by
  refine ct_of (by decide) ?_
  intro X Q as h hE C Z hG
  subst hE
  obtain ⟨p0, x1, rfl, hh⟩ := hG
  refine ⟨[.ref p0, .int x1], rfl, Nat.le_of_ble_eq_true rfl, ?_⟩
  exact bl_X6_reach_0 C Z p0 x1 h hh
theorem cv_X6_reach (E : aw_F) : CV E yX6_reach cX6_reach 2 (some .int) 4 1 5 tr_X6_reach := ⟨ct_X6_reach E, by decide, kw_461, kw_462, kw_314, kw_460, by decide +kernel, _, _, rfl⟩
theorem dX6_shows_0 : decode cX6_shows 0 = .ok (.aload_n 0, 1) := by decide +kernel
theorem dX6_shows_1 : decode cX6_shows 1 = .ok (.iload_n 1, 1) := by decide +kernel
theorem dX6_shows_2 : decode cX6_shows 2 = .ok (.invokevirtual 102, 3) := by decide +kernel
theorem dX6_shows_5 : decode cX6_shows 5 = .ok (.ifCond .ne 5, 3) := by decide +kernel
theorem dX6_shows_8 : decode cX6_shows 8 = .ok (.iconst (-1), 1) := by decide +kernel
theorem dX6_shows_9 : decode cX6_shows 9 = .ok (.ireturn, 1) := by decide +kernel
theorem dX6_shows_10 : decode cX6_shows 10 = .ok (.aload_n 0, 1) := by decide +kernel
theorem dX6_shows_11 : decode cX6_shows 11 = .ok (.getfield 10, 3) := by decide +kernel
theorem dX6_shows_14 : decode cX6_shows 14 = .ok (.iload_n 1, 1) := by decide +kernel
theorem dX6_shows_15 : decode cX6_shows 15 = .ok (.invokevirtual 230, 3) := by decide +kernel
theorem dX6_shows_18 : decode cX6_shows 18 = .ok (.ireturn, 1) := by decide +kernel
def sm_X6_shows_0  (Q : aw_R) (p0 : Nat) (x1 : Int32) (h : aw_H) : Prop :=
  sv_O h p0 5 (tr_X6_isState [.ref p0, .int x1] h fun r2 h1 => sr_I r2 fun v3 => if ¬ v3 = 0 then (sg_R h1 p0 5 0 fun q4 => sv_O h1 q4 1 (tr_X1_shownGates [.ref q4, .int x1] h1 fun r6 h5 => sr_I r6 fun v7 => Q (some (.int v7)) h5)) else (Q (some (.int ((-1)))) h1))
set_option maxRecDepth 100000 in
set_option maxHeartbeats 4000000 in
theorem bl_X6_shows_0 {X : aw_X} {Q : aw_R} (C : aw_C X cX6_shows RX6 2 4) (Z : aw_Z X cX6_shows (some .int) Q) (p0 : Nat) (x1 : Int32) (h : aw_H) (hh : sm_X6_shows_0  Q p0 x1 h) : Sat X 0 [.ref p0, .int x1] [] h := by
  unfold sm_X6_shows_0 at hh
  refine ow_aload_n C dX6_shows_0 rfl rfl ?_
  refine ow_iload_n C dX6_shows_1 rfl rfl ?_
  refine ow_callV C (cv_X6_isState _) (Nat.le_of_ble_eq_true rfl) kw_339 dX6_shows_2 (as := [.int x1]) (st := []) rfl rfl (Nat.le_of_ble_eq_true rfl) hh (fun r2 h1 hq => ?_)
  obtain ⟨v3, rfl, hh⟩ := sr_I_e hq
  show Sat X 5 [.ref p0, .int x1] [.int v3] h1
  refine ow_if_ne (tgt := 10) C dX6_shows_5 (by decide) hh (fun hh => ?_) (fun hh => ?_)
  · skip
    refine ow_aload_n C dX6_shows_10 rfl rfl ?_
    refine ow_getR (ci := 5) (k := 0) (T := TX6) C rfl igX6 (by decide) kw_418 dX6_shows_11 hh (fun q4 hh => ?_)
    refine ow_iload_n C dX6_shows_14 rfl rfl ?_
    refine ow_callV C (cv_X1_shownGates _) (Nat.le_of_ble_eq_true rfl) kw_463 dX6_shows_15 (as := [.int x1]) (st := []) rfl rfl (Nat.le_of_ble_eq_true rfl) hh (fun r6 h5 hq => ?_)
    obtain ⟨v7, rfl, hh⟩ := sr_I_e hq
    show Sat X 18 [.ref p0, .int x1] [.int v7] h5
    exact ow_iret Z dX6_shows_18 trivial hh
  · skip
    refine ow_iconst (v := (-1)) C dX6_shows_8 rfl ?_
    exact ow_iret Z dX6_shows_9 trivial hh
def tr_X6_shows : aw_T := fun as h Q => ∃ (p0 : Nat) (x1 : Int32), as = [.ref p0, .int x1] ∧ (sm_X6_shows_0  Q p0 x1 h)
theorem tq_X6_shows {p0 : Nat} {x1 : Int32} {h : aw_H} {Q : aw_R} : tr_X6_shows [.ref p0, .int x1] h Q ↔ (sm_X6_shows_0  Q p0 x1 h) := by
  constructor
  · rintro ⟨_, _, as0, hh⟩
    cases as0
    exact hh
  · intro hh
    exact ⟨_, _, rfl, hh⟩
theorem ct_X6_shows (E : aw_F) : CT E yX6_shows cX6_shows 2 (some .int) 4 tr_X6_shows := by
  refine ct_of (by decide) ?_
  intro X Q as h hE C Z hG
  subst hE
  obtain ⟨p0, x1, rfl, hh⟩ := hG
  refine ⟨[.ref p0, .int x1], rfl, Nat.le_of_ble_eq_true rfl, ?_⟩
  exact bl_X6_shows_0 C Z p0 x1 h hh
theorem cv_X6_shows (E : aw_F) : CV E yX6_shows cX6_shows 2 (some .int) 4 1 5 tr_X6_shows := ⟨ct_X6_shows E, by decide, kw_465, kw_466, kw_314, kw_464, by decide +kernel, _, _, rfl⟩
theorem dX6_telling_0 : decode cX6_telling 0 = .ok (.iload_n 1, 1) := by decide +kernel
theorem dX6_telling_1 : decode cX6_telling 1 = .ok (.ifCond .lt 8, 3) := by decide +kernel
theorem dX6_telling_4 : decode cX6_telling 4 = .ok (.iload_n 1, 1) := by decide +kernel
theorem dX6_telling_5 : decode cX6_telling 5 = .ok (.iconst 1, 1) := by decide +kernel
theorem dX6_telling_6 : decode cX6_telling 6 = .ok (.if_icmp .le 5, 3) := by decide +kernel
theorem dX6_telling_9 : decode cX6_telling 9 = .ok (.iconst (-1), 1) := by decide +kernel
theorem dX6_telling_10 : decode cX6_telling 10 = .ok (.ireturn, 1) := by decide +kernel
theorem dX6_telling_11 : decode cX6_telling 11 = .ok (.aload_n 0, 1) := by decide +kernel
theorem dX6_telling_12 : decode cX6_telling 12 = .ok (.getfield 10, 3) := by decide +kernel
theorem dX6_telling_15 : decode cX6_telling 15 = .ok (.invokevirtual 233, 3) := by decide +kernel
theorem dX6_telling_18 : decode cX6_telling 18 = .ok (.istore_n 2, 1) := by decide +kernel
theorem dX6_telling_19 : decode cX6_telling 19 = .ok (.iload_n 1, 1) := by decide +kernel
theorem dX6_telling_20 : decode cX6_telling 20 = .ok (.ifCond .ne 7, 3) := by decide +kernel
theorem dX6_telling_23 : decode cX6_telling 23 = .ok (.iload_n 2, 1) := by decide +kernel
theorem dX6_telling_24 : decode cX6_telling 24 = .ok (.goto 14, 3) := by decide +kernel
theorem dX6_telling_27 : decode cX6_telling 27 = .ok (.aload_n 0, 1) := by decide +kernel
theorem dX6_telling_28 : decode cX6_telling 28 = .ok (.getfield 10, 3) := by decide +kernel
theorem dX6_telling_31 : decode cX6_telling 31 = .ok (.iload_n 2, 1) := by decide +kernel
theorem dX6_telling_32 : decode cX6_telling 32 = .ok (.invokevirtual 230, 3) := by decide +kernel
theorem dX6_telling_35 : decode cX6_telling 35 = .ok (.invokestatic 138, 3) := by decide +kernel
theorem dX6_telling_38 : decode cX6_telling 38 = .ok (.ireturn, 1) := by decide +kernel
def sm_X6_telling_0  (Q : aw_R) (p0 : Nat) (x1 : Int32) (h : aw_H) : Prop :=
  if x1 < 0 then (Q (some (.int ((-1)))) h) else (if x1 ≤ 1 then (sg_R h p0 5 0 fun q1 => sv_O h q1 1 (tr_X1_tellingState [.ref q1] h fun r3 h2 => sr_I r3 fun v4 => if ¬ x1 = 0 then (sg_R h2 p0 5 0 fun q5 => sv_O h2 q5 1 (tr_X1_shownGates [.ref q5, .int v4] h2 fun r7 h6 => sr_I r7 fun v8 => tr_J6_bitCount_0f7a4 [.int v8] h6 fun r10 h9 => sr_I r10 fun v11 => Q (some (.int v11)) h9)) else (Q (some (.int v4)) h2))) else (Q (some (.int ((-1)))) h))
set_option maxRecDepth 100000 in
set_option maxHeartbeats 4000000 in
theorem bl_X6_telling_0 {X : aw_X} {Q : aw_R} (C : aw_C X cX6_telling RX6 3 5) (Z : aw_Z X cX6_telling (some .int) Q) (p0 : Nat) (x1 : Int32) (h : aw_H) (hh : sm_X6_telling_0  Q p0 x1 h) : Sat X 0 [.ref p0, .int x1, Value.null] [] h := by
  unfold sm_X6_telling_0 at hh
  refine ow_iload_n C dX6_telling_0 rfl rfl ?_
  refine ow_if_lt (tgt := 9) C dX6_telling_1 (by decide) hh (fun hh => ?_) (fun hh => ?_)
  · skip
    refine ow_iconst (v := (-1)) C dX6_telling_9 rfl ?_
    exact ow_iret Z dX6_telling_10 trivial hh
  · skip
    refine ow_iload_n C dX6_telling_4 rfl rfl ?_
    refine ow_iconst (v := 1) C dX6_telling_5 rfl ?_
    refine ow_icmp_le (tgt := 11) C dX6_telling_6 (by decide) hh (fun hh => ?_) (fun hh => ?_)
    · skip
      refine ow_aload_n C dX6_telling_11 rfl rfl ?_
      refine ow_getR (ci := 5) (k := 0) (T := TX6) C rfl igX6 (by decide) kw_418 dX6_telling_12 hh (fun q1 hh => ?_)
      refine ow_callV C (cv_X1_tellingState _) (Nat.le_of_ble_eq_true rfl) kw_467 dX6_telling_15 (as := []) (st := []) rfl rfl (Nat.le_of_ble_eq_true rfl) hh (fun r3 h2 hq => ?_)
      obtain ⟨v4, rfl, hh⟩ := sr_I_e hq
      show Sat X 18 [.ref p0, .int x1, Value.null] [.int v4] h2
      refine ow_istore_n (L' := [.ref p0, .int x1, .int v4]) C dX6_telling_18 rfl (by decide) rfl ?_
      refine ow_iload_n C dX6_telling_19 rfl rfl ?_
      refine ow_if_ne (tgt := 27) C dX6_telling_20 (by decide) hh (fun hh => ?_) (fun hh => ?_)
      · skip
        refine ow_aload_n C dX6_telling_27 rfl rfl ?_
        refine ow_getR (ci := 5) (k := 0) (T := TX6) C rfl igX6 (by decide) kw_418 dX6_telling_28 hh (fun q5 hh => ?_)
        refine ow_iload_n C dX6_telling_31 rfl rfl ?_
        refine ow_callV C (cv_X1_shownGates _) (Nat.le_of_ble_eq_true rfl) kw_463 dX6_telling_32 (as := [.int v4]) (st := []) rfl rfl (Nat.le_of_ble_eq_true rfl) hh (fun r7 h6 hq => ?_)
        obtain ⟨v8, rfl, hh⟩ := sr_I_e hq
        show Sat X 35 [.ref p0, .int x1, .int v4] [.int v8] h6
        refine ow_callS C (cs_J6_bitCount_0f7a4 _) (Nat.le_of_ble_eq_true rfl) kw_361 dX6_telling_35 (as := [.int v8]) (st := []) rfl rfl (Nat.le_of_ble_eq_true rfl) hh (fun r10 h9 hq => ?_)
        obtain ⟨v11, rfl, hh⟩ := sr_I_e hq
        show Sat X 38 [.ref p0, .int x1, .int v4] [.int v11] h9
        exact ow_iret Z dX6_telling_38 trivial hh
      · skip
        refine ow_iload_n C dX6_telling_23 rfl rfl ?_
        refine ow_goto (tgt := 38) C dX6_telling_24 (by decide) ?_
        exact ow_iret Z dX6_telling_38 trivial hh
    · skip
      refine ow_iconst (v := (-1)) C dX6_telling_9 rfl ?_
      exact ow_iret Z dX6_telling_10 trivial hh
def tr_X6_telling : aw_T := fun as h Q => ∃ (p0 : Nat) (x1 : Int32), as = [.ref p0, .int x1] ∧ (sm_X6_telling_0  Q p0 x1 h)
theorem tq_X6_telling {p0 : Nat} {x1 : Int32} {h : aw_H} {Q : aw_R} : tr_X6_telling [.ref p0, .int x1] h Q ↔ (sm_X6_telling_0  Q p0 x1 h) := by
  constructor
  · rintro ⟨_, _, as0, hh⟩
    cases as0
    exact hh
  · intro hh
    exact ⟨_, _, rfl, hh⟩
theorem ct_X6_telling (E : aw_F) : CT E yX6_telling cX6_telling 3 (some .int) 5 tr_X6_telling := by
  refine ct_of (by decide) ?_
  intro X Q as h hE C Z hG
  subst hE
  obtain ⟨p0, x1, rfl, hh⟩ := hG
  refine ⟨[.ref p0, .int x1, Value.null], rfl, Nat.le_of_ble_eq_true rfl, ?_⟩
  exact bl_X6_telling_0 C Z p0 x1 h hh
theorem cv_X6_telling (E : aw_F) : CV E yX6_telling cX6_telling 3 (some .int) 5 1 5 tr_X6_telling := ⟨ct_X6_telling E, by decide, kw_469, kw_470, kw_314, kw_468, by decide +kernel, _, _, rfl⟩
theorem dX6_likely_0 : decode cX6_likely 0 = .ok (.aload_n 0, 1) := by decide +kernel
theorem dX6_likely_1 : decode cX6_likely 1 = .ok (.iload_n 1, 1) := by decide +kernel
theorem dX6_likely_2 : decode cX6_likely 2 = .ok (.invokevirtual 155, 3) := by decide +kernel
theorem dX6_likely_5 : decode cX6_likely 5 = .ok (.ifCond .eq 22, 3) := by decide +kernel
theorem dX6_likely_8 : decode cX6_likely 8 = .ok (.iload_n 2, 1) := by decide +kernel
theorem dX6_likely_9 : decode cX6_likely 9 = .ok (.ifCond .lt 18, 3) := by decide +kernel
theorem dX6_likely_12 : decode cX6_likely 12 = .ok (.iload_n 2, 1) := by decide +kernel
theorem dX6_likely_13 : decode cX6_likely 13 = .ok (.bipush 10, 2) := by decide +kernel
theorem dX6_likely_15 : decode cX6_likely 15 = .ok (.if_icmp .gt 12, 3) := by decide +kernel
theorem dX6_likely_18 : decode cX6_likely 18 = .ok (.iload_n 3, 1) := by decide +kernel
theorem dX6_likely_19 : decode cX6_likely 19 = .ok (.ifCond .lt 8, 3) := by decide +kernel
theorem dX6_likely_22 : decode cX6_likely 22 = .ok (.iload_n 3, 1) := by decide +kernel
theorem dX6_likely_23 : decode cX6_likely 23 = .ok (.iconst 1, 1) := by decide +kernel
theorem dX6_likely_24 : decode cX6_likely 24 = .ok (.if_icmp .le 5, 3) := by decide +kernel
theorem dX6_likely_27 : decode cX6_likely 27 = .ok (.iconst (-1), 1) := by decide +kernel
theorem dX6_likely_28 : decode cX6_likely 28 = .ok (.ireturn, 1) := by decide +kernel
theorem dX6_likely_29 : decode cX6_likely 29 = .ok (.aload_n 0, 1) := by decide +kernel
theorem dX6_likely_30 : decode cX6_likely 30 = .ok (.getfield 10, 3) := by decide +kernel
theorem dX6_likely_33 : decode cX6_likely 33 = .ok (.iload_n 1, 1) := by decide +kernel
theorem dX6_likely_34 : decode cX6_likely 34 = .ok (.iload_n 2, 1) := by decide +kernel
theorem dX6_likely_35 : decode cX6_likely 35 = .ok (.iload_n 3, 1) := by decide +kernel
theorem dX6_likely_36 : decode cX6_likely 36 = .ok (.ifCond .ne 7, 3) := by decide +kernel
theorem dX6_likely_39 : decode cX6_likely 39 = .ok (.iconst 1, 1) := by decide +kernel
theorem dX6_likely_40 : decode cX6_likely 40 = .ok (.goto 4, 3) := by decide +kernel
theorem dX6_likely_43 : decode cX6_likely 43 = .ok (.iconst 0, 1) := by decide +kernel
theorem dX6_likely_44 : decode cX6_likely 44 = .ok (.invokevirtual 236, 3) := by decide +kernel
theorem dX6_likely_47 : decode cX6_likely 47 = .ok (.ireturn, 1) := by decide +kernel
def sm_X6_likely_0  (Q : aw_R) (p0 : Nat) (x1 : Int32) (x2 : Int32) (x3 : Int32) (h : aw_H) : Prop :=
  sv_O h p0 5 (tr_X6_isWire [.ref p0, .int x1] h fun r2 h1 => sr_I r2 fun v3 => if v3 = 0 then (Q (some (.int ((-1)))) h1) else (if x2 < 0 then (Q (some (.int ((-1)))) h1) else (if 10 < x2 then (Q (some (.int ((-1)))) h1) else (if x3 < 0 then (Q (some (.int ((-1)))) h1) else (if x3 ≤ 1 then (sg_R h1 p0 5 0 fun q4 => if ¬ x3 = 0 then (sv_O h1 q4 1 (tr_X1_likelySet [.ref q4, .int x1, .int x2, .int 0] h1 fun r6 h5 => sr_I r6 fun v7 => Q (some (.int v7)) h5)) else (sv_O h1 q4 1 (tr_X1_likelySet [.ref q4, .int x1, .int x2, .int 1] h1 fun r9 h8 => sr_I r9 fun v10 => Q (some (.int v10)) h8))) else (Q (some (.int ((-1)))) h1))))))
set_option maxRecDepth 100000 in
set_option maxHeartbeats 4000000 in
theorem bl_X6_likely_0 {X : aw_X} {Q : aw_R} (C : aw_C X cX6_likely RX6 4 5) (Z : aw_Z X cX6_likely (some .int) Q) (p0 : Nat) (x1 : Int32) (x2 : Int32) (x3 : Int32) (h : aw_H) (hh : sm_X6_likely_0  Q p0 x1 x2 x3 h) : Sat X 0 [.ref p0, .int x1, .int x2, .int x3] [] h := by
  unfold sm_X6_likely_0 at hh
  refine ow_aload_n C dX6_likely_0 rfl rfl ?_
  refine ow_iload_n C dX6_likely_1 rfl rfl ?_
  refine ow_callV C (cv_X6_isWire _) (Nat.le_of_ble_eq_true rfl) kw_381 dX6_likely_2 (as := [.int x1]) (st := []) rfl rfl (Nat.le_of_ble_eq_true rfl) hh (fun r2 h1 hq => ?_)
  obtain ⟨v3, rfl, hh⟩ := sr_I_e hq
  show Sat X 5 [.ref p0, .int x1, .int x2, .int x3] [.int v3] h1
  refine ow_if_eq (tgt := 27) C dX6_likely_5 (by decide) hh (fun hh => ?_) (fun hh => ?_)
  · skip
    refine ow_iconst (v := (-1)) C dX6_likely_27 rfl ?_
    exact ow_iret Z dX6_likely_28 trivial hh
  · skip
    refine ow_iload_n C dX6_likely_8 rfl rfl ?_
    refine ow_if_lt (tgt := 27) C dX6_likely_9 (by decide) hh (fun hh => ?_) (fun hh => ?_)
    · skip
      refine ow_iconst (v := (-1)) C dX6_likely_27 rfl ?_
      exact ow_iret Z dX6_likely_28 trivial hh
    · skip
      refine ow_iload_n C dX6_likely_12 rfl rfl ?_
      refine ow_bipush (v := 10) C dX6_likely_13 rfl ?_
      refine ow_icmp_gt (tgt := 27) C dX6_likely_15 (by decide) hh (fun hh => ?_) (fun hh => ?_)
      · skip
        refine ow_iconst (v := (-1)) C dX6_likely_27 rfl ?_
        exact ow_iret Z dX6_likely_28 trivial hh
      · skip
        refine ow_iload_n C dX6_likely_18 rfl rfl ?_
        refine ow_if_lt (tgt := 27) C dX6_likely_19 (by decide) hh (fun hh => ?_) (fun hh => ?_)
        · skip
          refine ow_iconst (v := (-1)) C dX6_likely_27 rfl ?_
          exact ow_iret Z dX6_likely_28 trivial hh
        · skip
          refine ow_iload_n C dX6_likely_22 rfl rfl ?_
          refine ow_iconst (v := 1) C dX6_likely_23 rfl ?_
          refine ow_icmp_le (tgt := 29) C dX6_likely_24 (by decide) hh (fun hh => ?_) (fun hh => ?_)
          · skip
            refine ow_aload_n C dX6_likely_29 rfl rfl ?_
            refine ow_getR (ci := 5) (k := 0) (T := TX6) C rfl igX6 (by decide) kw_418 dX6_likely_30 hh (fun q4 hh => ?_)
            refine ow_iload_n C dX6_likely_33 rfl rfl ?_
            refine ow_iload_n C dX6_likely_34 rfl rfl ?_
            refine ow_iload_n C dX6_likely_35 rfl rfl ?_
            refine ow_if_ne (tgt := 43) C dX6_likely_36 (by decide) hh (fun hh => ?_) (fun hh => ?_)
            · skip
              refine ow_iconst (v := 0) C dX6_likely_43 rfl ?_
              refine ow_callV C (cv_X1_likelySet _) (Nat.le_of_ble_eq_true rfl) kw_471 dX6_likely_44 (as := [.int x1, .int x2, .int 0]) (st := []) rfl rfl (Nat.le_of_ble_eq_true rfl) hh (fun r6 h5 hq => ?_)
              obtain ⟨v7, rfl, hh⟩ := sr_I_e hq
              show Sat X 47 [.ref p0, .int x1, .int x2, .int x3] [.int v7] h5
              exact ow_iret Z dX6_likely_47 trivial hh
            · skip
              refine ow_iconst (v := 1) C dX6_likely_39 rfl ?_
              refine ow_goto (tgt := 44) C dX6_likely_40 (by decide) ?_
              refine ow_callV C (cv_X1_likelySet _) (Nat.le_of_ble_eq_true rfl) kw_471 dX6_likely_44 (as := [.int x1, .int x2, .int 1]) (st := []) rfl rfl (Nat.le_of_ble_eq_true rfl) hh (fun r9 h8 hq => ?_)
              obtain ⟨v10, rfl, hh⟩ := sr_I_e hq
              show Sat X 47 [.ref p0, .int x1, .int x2, .int x3] [.int v10] h8
              exact ow_iret Z dX6_likely_47 trivial hh
          · skip
            refine ow_iconst (v := (-1)) C dX6_likely_27 rfl ?_
            exact ow_iret Z dX6_likely_28 trivial hh
def tr_X6_likely : aw_T := fun as h Q => ∃ (p0 : Nat) (x1 : Int32) (x2 : Int32) (x3 : Int32), as = [.ref p0, .int x1, .int x2, .int x3] ∧ (sm_X6_likely_0  Q p0 x1 x2 x3 h)
theorem tq_X6_likely {p0 : Nat} {x1 : Int32} {x2 : Int32} {x3 : Int32} {h : aw_H} {Q : aw_R} : tr_X6_likely [.ref p0, .int x1, .int x2, .int x3] h Q ↔ (sm_X6_likely_0  Q p0 x1 x2 x3 h) := by
  constructor
  · rintro ⟨_, _, _, _, as0, hh⟩
    cases as0
    exact hh
  · intro hh
    exact ⟨_, _, _, _, rfl, hh⟩
theorem ct_X6_likely (E : aw_F) : CT E yX6_likely cX6_likely 4 (some .int) 5 tr_X6_likely := by
  refine ct_of (by decide) ?_
  intro X Q as h hE C Z hG
  subst hE
  obtain ⟨p0, x1, x2, x3, rfl, hh⟩ := hG
  refine ⟨[.ref p0, .int x1, .int x2, .int x3], rfl, Nat.le_of_ble_eq_true rfl, ?_⟩
  exact bl_X6_likely_0 C Z p0 x1 x2 x3 h hh
theorem cv_X6_likely (E : aw_F) : CV E yX6_likely cX6_likely 4 (some .int) 5 3 5 tr_X6_likely := ⟨ct_X6_likely E, by decide, kw_473, kw_474, kw_314, kw_472, by decide +kernel, _, _, rfl⟩
theorem dX6_image_0 : decode cX6_image 0 = .ok (.aload_n 0, 1) := by decide +kernel
theorem dX6_image_1 : decode cX6_image 1 = .ok (.getfield 33, 3) := by decide +kernel
theorem dX6_image_4 : decode cX6_image 4 = .ok (.aload_n 0, 1) := by decide +kernel
theorem dX6_image_5 : decode cX6_image 5 = .ok (.getfield 20, 3) := by decide +kernel
theorem dX6_image_8 : decode cX6_image 8 = .ok (.invokevirtual 124, 3) := by decide +kernel
theorem dX6_image_11 : decode cX6_image 11 = .ok (.aload_n 0, 1) := by decide +kernel
theorem dX6_image_12 : decode cX6_image 12 = .ok (.getfield 36, 3) := by decide +kernel
theorem dX6_image_15 : decode cX6_image 15 = .ok (.aload_n 0, 1) := by decide +kernel
theorem dX6_image_16 : decode cX6_image 16 = .ok (.getfield 26, 3) := by decide +kernel
theorem dX6_image_19 : decode cX6_image 19 = .ok (.invokevirtual 240, 3) := by decide +kernel
theorem dX6_image_22 : decode cX6_image 22 = .ok (.aload_n 0, 1) := by decide +kernel
theorem dX6_image_23 : decode cX6_image 23 = .ok (.iconst 1, 1) := by decide +kernel
theorem dX6_image_24 : decode cX6_image 24 = .ok (.putfield 243, 3) := by decide +kernel
theorem dX6_image_27 : decode cX6_image 27 = .ok (.iconst 1, 1) := by decide +kernel
theorem dX6_image_28 : decode cX6_image 28 = .ok (.ireturn, 1) := by decide +kernel
def sm_X6_image_0  (Q : aw_R) (p0 : Nat) (h : aw_H) : Prop :=
  sg_R h p0 5 3 fun q1 => sg_R h p0 5 1 fun q2 => sv_O h q1 0 (tr_X0_becomes [.ref q1, .ref q2] h fun r4 h3 => sr_V r4 <| sg_R h3 p0 5 4 fun q5 => sg_R h3 p0 5 2 fun q6 => sv_O h3 q5 2 (tr_X3_becomes [.ref q5, .ref q6] h3 fun r8 h7 => sr_V r8 <| sp_I h7 p0 5 5 1 fun h9 => Q (some (.int 1)) h9))
set_option maxRecDepth 100000 in
set_option maxHeartbeats 4000000 in
theorem bl_X6_image_0 {X : aw_X} {Q : aw_R} (C : aw_C X cX6_image RX6 1 3) (Z : aw_Z X cX6_image (some .int) Q) (p0 : Nat) (h : aw_H) (hh : sm_X6_image_0  Q p0 h) : Sat X 0 [.ref p0] [] h := by
  unfold sm_X6_image_0 at hh
  refine ow_aload_n C dX6_image_0 rfl rfl ?_
  refine ow_getR (ci := 5) (k := 3) (T := TX6) C rfl igX6 (by decide) kw_475 dX6_image_1 hh (fun q1 hh => ?_)
  refine ow_aload_n C dX6_image_4 rfl rfl ?_
  refine ow_getR (ci := 5) (k := 1) (T := TX6) C rfl igX6 (by decide) kw_308 dX6_image_5 hh (fun q2 hh => ?_)
  refine ow_callV C (cv_X0_becomes _) (Nat.le_of_ble_eq_true rfl) kw_353 dX6_image_8 (as := [.ref q2]) (st := []) rfl rfl (Nat.le_of_ble_eq_true rfl) hh (fun r4 h3 hq => ?_)
  obtain ⟨rfl, hh⟩ := sr_V_e hq
  show Sat X 11 [.ref p0] [] h3
  refine ow_aload_n C dX6_image_11 rfl rfl ?_
  refine ow_getR (ci := 5) (k := 4) (T := TX6) C rfl igX6 (by decide) kw_476 dX6_image_12 hh (fun q5 hh => ?_)
  refine ow_aload_n C dX6_image_15 rfl rfl ?_
  refine ow_getR (ci := 5) (k := 2) (T := TX6) C rfl igX6 (by decide) kw_311 dX6_image_16 hh (fun q6 hh => ?_)
  refine ow_callV C (cv_X3_becomes _) (Nat.le_of_ble_eq_true rfl) kw_477 dX6_image_19 (as := [.ref q6]) (st := []) rfl rfl (Nat.le_of_ble_eq_true rfl) hh (fun r8 h7 hq => ?_)
  obtain ⟨rfl, hh⟩ := sr_V_e hq
  show Sat X 22 [.ref p0] [] h7
  refine ow_aload_n C dX6_image_22 rfl rfl ?_
  refine ow_iconst (v := 1) C dX6_image_23 rfl ?_
  refine ow_putZ (ci := 5) (k := 5) (T := TX6) C rfl igX6 tyX6 tyX6_ok nmX6 (by decide) kw_478 rfl (by decide +kernel) (Or.inr rfl) dX6_image_24 hh (fun h9 hh => ?_)
  refine ow_iconst (v := 1) C dX6_image_27 rfl ?_
  exact ow_iret Z dX6_image_28 trivial hh
def tr_X6_image : aw_T := fun as h Q => ∃ (p0 : Nat), as = [.ref p0] ∧ (sm_X6_image_0  Q p0 h)
theorem tq_X6_image {p0 : Nat} {h : aw_H} {Q : aw_R} : tr_X6_image [.ref p0] h Q ↔ (sm_X6_image_0  Q p0 h) := by
  constructor
  · rintro ⟨_, as0, hh⟩
    cases as0
    exact hh
  · intro hh
    exact ⟨_, rfl, hh⟩
theorem ct_X6_image (E : aw_F) : CT E yX6_image cX6_image 1 (some .int) 3 tr_X6_image := by
  refine ct_of (by decide) ?_
  intro X Q as h hE C Z hG
  subst hE
  obtain ⟨p0, rfl, hh⟩ := hG
  refine ⟨[.ref p0], rfl, Nat.le_of_ble_eq_true rfl, ?_⟩
  exact bl_X6_image_0 C Z p0 h hh
theorem cv_X6_image (E : aw_F) : CV E yX6_image cX6_image 1 (some .int) 3 0 5 tr_X6_image := ⟨ct_X6_image E, by decide, kw_480, kw_481, kw_314, kw_479, by decide +kernel, _, _, rfl⟩
theorem dX6_restore_0 : decode cX6_restore 0 = .ok (.aload_n 0, 1) := by decide +kernel
theorem dX6_restore_1 : decode cX6_restore 1 = .ok (.getfield 243, 3) := by decide +kernel
theorem dX6_restore_4 : decode cX6_restore 4 = .ok (.ifCond .ne 6, 3) := by decide +kernel
theorem dX6_restore_7 : decode cX6_restore 7 = .ok (.bipush (-4), 2) := by decide +kernel
theorem dX6_restore_9 : decode cX6_restore 9 = .ok (.ireturn, 1) := by decide +kernel
theorem dX6_restore_10 : decode cX6_restore 10 = .ok (.aload_n 0, 1) := by decide +kernel
theorem dX6_restore_11 : decode cX6_restore 11 = .ok (.getfield 20, 3) := by decide +kernel
theorem dX6_restore_14 : decode cX6_restore 14 = .ok (.aload_n 0, 1) := by decide +kernel
theorem dX6_restore_15 : decode cX6_restore 15 = .ok (.getfield 33, 3) := by decide +kernel
theorem dX6_restore_18 : decode cX6_restore 18 = .ok (.invokevirtual 124, 3) := by decide +kernel
theorem dX6_restore_21 : decode cX6_restore 21 = .ok (.aload_n 0, 1) := by decide +kernel
theorem dX6_restore_22 : decode cX6_restore 22 = .ok (.getfield 26, 3) := by decide +kernel
theorem dX6_restore_25 : decode cX6_restore 25 = .ok (.aload_n 0, 1) := by decide +kernel
theorem dX6_restore_26 : decode cX6_restore 26 = .ok (.getfield 36, 3) := by decide +kernel
theorem dX6_restore_29 : decode cX6_restore 29 = .ok (.invokevirtual 240, 3) := by decide +kernel
theorem dX6_restore_32 : decode cX6_restore 32 = .ok (.iconst 1, 1) := by decide +kernel
theorem dX6_restore_33 : decode cX6_restore 33 = .ok (.ireturn, 1) := by decide +kernel
def sm_X6_restore_0  (Q : aw_R) (p0 : Nat) (h : aw_H) : Prop :=
  sg_I h p0 5 5 fun v1 => if ¬ v1 = 0 then (sg_R h p0 5 1 fun q2 => sg_R h p0 5 3 fun q3 => sv_O h q2 0 (tr_X0_becomes [.ref q2, .ref q3] h fun r5 h4 => sr_V r5 <| sg_R h4 p0 5 2 fun q6 => sg_R h4 p0 5 4 fun q7 => sv_O h4 q6 2 (tr_X3_becomes [.ref q6, .ref q7] h4 fun r9 h8 => sr_V r9 <| Q (some (.int 1)) h8))) else (Q (some (.int ((-4)))) h)
set_option maxRecDepth 100000 in
set_option maxHeartbeats 4000000 in
theorem bl_X6_restore_0 {X : aw_X} {Q : aw_R} (C : aw_C X cX6_restore RX6 1 3) (Z : aw_Z X cX6_restore (some .int) Q) (p0 : Nat) (h : aw_H) (hh : sm_X6_restore_0  Q p0 h) : Sat X 0 [.ref p0] [] h := by
  unfold sm_X6_restore_0 at hh
  refine ow_aload_n C dX6_restore_0 rfl rfl ?_
  refine ow_getI (ci := 5) (k := 5) (T := TX6) C rfl igX6 (by decide) kw_478 dX6_restore_1 hh (fun v1 hh => ?_)
  refine ow_if_ne (tgt := 10) C dX6_restore_4 (by decide) hh (fun hh => ?_) (fun hh => ?_)
  · skip
    refine ow_aload_n C dX6_restore_10 rfl rfl ?_
    refine ow_getR (ci := 5) (k := 1) (T := TX6) C rfl igX6 (by decide) kw_308 dX6_restore_11 hh (fun q2 hh => ?_)
    refine ow_aload_n C dX6_restore_14 rfl rfl ?_
    refine ow_getR (ci := 5) (k := 3) (T := TX6) C rfl igX6 (by decide) kw_475 dX6_restore_15 hh (fun q3 hh => ?_)
    refine ow_callV C (cv_X0_becomes _) (Nat.le_of_ble_eq_true rfl) kw_353 dX6_restore_18 (as := [.ref q3]) (st := []) rfl rfl (Nat.le_of_ble_eq_true rfl) hh (fun r5 h4 hq => ?_)
    obtain ⟨rfl, hh⟩ := sr_V_e hq
    show Sat X 21 [.ref p0] [] h4
    refine ow_aload_n C dX6_restore_21 rfl rfl ?_
    refine ow_getR (ci := 5) (k := 2) (T := TX6) C rfl igX6 (by decide) kw_311 dX6_restore_22 hh (fun q6 hh => ?_)
    refine ow_aload_n C dX6_restore_25 rfl rfl ?_
    refine ow_getR (ci := 5) (k := 4) (T := TX6) C rfl igX6 (by decide) kw_476 dX6_restore_26 hh (fun q7 hh => ?_)
    refine ow_callV C (cv_X3_becomes _) (Nat.le_of_ble_eq_true rfl) kw_477 dX6_restore_29 (as := [.ref q7]) (st := []) rfl rfl (Nat.le_of_ble_eq_true rfl) hh (fun r9 h8 hq => ?_)
    obtain ⟨rfl, hh⟩ := sr_V_e hq
    show Sat X 32 [.ref p0] [] h8
    refine ow_iconst (v := 1) C dX6_restore_32 rfl ?_
    exact ow_iret Z dX6_restore_33 trivial hh
  · skip
    refine ow_bipush (v := (-4)) C dX6_restore_7 rfl ?_
    exact ow_iret Z dX6_restore_9 trivial hh
def tr_X6_restore : aw_T := fun as h Q => ∃ (p0 : Nat), as = [.ref p0] ∧ (sm_X6_restore_0  Q p0 h)
theorem tq_X6_restore {p0 : Nat} {h : aw_H} {Q : aw_R} : tr_X6_restore [.ref p0] h Q ↔ (sm_X6_restore_0  Q p0 h) := by
  constructor
  · rintro ⟨_, as0, hh⟩
    cases as0
    exact hh
  · intro hh
    exact ⟨_, rfl, hh⟩
theorem ct_X6_restore (E : aw_F) : CT E yX6_restore cX6_restore 1 (some .int) 3 tr_X6_restore := by
  refine ct_of (by decide) ?_
  intro X Q as h hE C Z hG
  subst hE
  obtain ⟨p0, rfl, hh⟩ := hG
  refine ⟨[.ref p0], rfl, Nat.le_of_ble_eq_true rfl, ?_⟩
  exact bl_X6_restore_0 C Z p0 h hh
theorem cv_X6_restore (E : aw_F) : CV E yX6_restore cX6_restore 1 (some .int) 3 0 5 tr_X6_restore := ⟨ct_X6_restore E, by decide, kw_483, kw_484, kw_314, kw_482, by decide +kernel, _, _, rfl⟩
theorem dX6_areStates_0 : decode cX6_areStates 0 = .ok (.aload_n 0, 1) := by decide +kernel
theorem dX6_areStates_1 : decode cX6_areStates 1 = .ok (.iload_n 1, 1) := by decide +kernel
theorem dX6_areStates_2 : decode cX6_areStates 2 = .ok (.invokevirtual 102, 3) := by decide +kernel
theorem dX6_areStates_5 : decode cX6_areStates 5 = .ok (.ifCond .eq 30, 3) := by decide +kernel
theorem dX6_areStates_8 : decode cX6_areStates 8 = .ok (.iload_n 2, 1) := by decide +kernel
theorem dX6_areStates_9 : decode cX6_areStates 9 = .ok (.iconst 1, 1) := by decide +kernel
theorem dX6_areStates_10 : decode cX6_areStates 10 = .ok (.if_icmp .lt 25, 3) := by decide +kernel
theorem dX6_areStates_13 : decode cX6_areStates 13 = .ok (.iload_n 2, 1) := by decide +kernel
theorem dX6_areStates_14 : decode cX6_areStates 14 = .ok (.iload_n 3, 1) := by decide +kernel
theorem dX6_areStates_15 : decode cX6_areStates 15 = .ok (.if_icmp .gt 20, 3) := by decide +kernel
theorem dX6_areStates_18 : decode cX6_areStates 18 = .ok (.iload_n 1, 1) := by decide +kernel
theorem dX6_areStates_19 : decode cX6_areStates 19 = .ok (.iload_n 2, 1) := by decide +kernel
theorem dX6_areStates_20 : decode cX6_areStates 20 = .ok (.iadd, 1) := by decide +kernel
theorem dX6_areStates_21 : decode cX6_areStates 21 = .ok (.aload_n 0, 1) := by decide +kernel
theorem dX6_areStates_22 : decode cX6_areStates 22 = .ok (.getfield 20, 3) := by decide +kernel
theorem dX6_areStates_25 : decode cX6_areStates 25 = .ok (.invokevirtual 205, 3) := by decide +kernel
theorem dX6_areStates_28 : decode cX6_areStates 28 = .ok (.if_icmp .gt 7, 3) := by decide +kernel
theorem dX6_areStates_31 : decode cX6_areStates 31 = .ok (.iconst 1, 1) := by decide +kernel
theorem dX6_areStates_32 : decode cX6_areStates 32 = .ok (.goto 4, 3) := by decide +kernel
theorem dX6_areStates_35 : decode cX6_areStates 35 = .ok (.iconst 0, 1) := by decide +kernel
theorem dX6_areStates_36 : decode cX6_areStates 36 = .ok (.ireturn, 1) := by decide +kernel
def sm_X6_areStates_0  (Q : aw_R) (p0 : Nat) (x1 : Int32) (x2 : Int32) (x3 : Int32) (h : aw_H) : Prop :=
  sv_O h p0 5 (tr_X6_isState [.ref p0, .int x1] h fun r2 h1 => sr_I r2 fun v3 => if v3 = 0 then (Q (some (.int 0)) h1) else (if x2 < 1 then (Q (some (.int 0)) h1) else (if x3 < x2 then (Q (some (.int 0)) h1) else (sg_R h1 p0 5 1 fun q4 => sv_O h1 q4 0 (tr_X0_states [.ref q4] h1 fun r6 h5 => sr_I r6 fun v7 => if v7 < (x1 + x2) then (Q (some (.int 0)) h5) else (Q (some (.int 1)) h5))))))
set_option maxRecDepth 100000 in
set_option maxHeartbeats 4000000 in
theorem bl_X6_areStates_0 {X : aw_X} {Q : aw_R} (C : aw_C X cX6_areStates RX6 4 2) (Z : aw_Z X cX6_areStates (some .boolean) Q) (p0 : Nat) (x1 : Int32) (x2 : Int32) (x3 : Int32) (h : aw_H) (hh : sm_X6_areStates_0  Q p0 x1 x2 x3 h) : Sat X 0 [.ref p0, .int x1, .int x2, .int x3] [] h := by
  unfold sm_X6_areStates_0 at hh
  refine ow_aload_n C dX6_areStates_0 rfl rfl ?_
  refine ow_iload_n C dX6_areStates_1 rfl rfl ?_
  refine ow_callV C (cv_X6_isState _) (Nat.le_of_ble_eq_true rfl) kw_339 dX6_areStates_2 (as := [.int x1]) (st := []) rfl rfl (Nat.le_of_ble_eq_true rfl) hh (fun r2 h1 hq => ?_)
  obtain ⟨v3, rfl, hh⟩ := sr_I_e hq
  show Sat X 5 [.ref p0, .int x1, .int x2, .int x3] [.int v3] h1
  refine ow_if_eq (tgt := 35) C dX6_areStates_5 (by decide) hh (fun hh => ?_) (fun hh => ?_)
  · skip
    refine ow_iconst (v := 0) C dX6_areStates_35 rfl ?_
    exact ow_iret Z dX6_areStates_36 (Or.inl rfl) hh
  · skip
    refine ow_iload_n C dX6_areStates_8 rfl rfl ?_
    refine ow_iconst (v := 1) C dX6_areStates_9 rfl ?_
    refine ow_icmp_lt (tgt := 35) C dX6_areStates_10 (by decide) hh (fun hh => ?_) (fun hh => ?_)
    · skip
      refine ow_iconst (v := 0) C dX6_areStates_35 rfl ?_
      exact ow_iret Z dX6_areStates_36 (Or.inl rfl) hh
    · skip
      refine ow_iload_n C dX6_areStates_13 rfl rfl ?_
      refine ow_iload_n C dX6_areStates_14 rfl rfl ?_
      refine ow_icmp_gt (tgt := 35) C dX6_areStates_15 (by decide) hh (fun hh => ?_) (fun hh => ?_)
      · skip
        refine ow_iconst (v := 0) C dX6_areStates_35 rfl ?_
        exact ow_iret Z dX6_areStates_36 (Or.inl rfl) hh
      · skip
        refine ow_iload_n C dX6_areStates_18 rfl rfl ?_
        refine ow_iload_n C dX6_areStates_19 rfl rfl ?_
        refine ow_iadd C dX6_areStates_20 ?_
        refine ow_aload_n C dX6_areStates_21 rfl rfl ?_
        refine ow_getR (ci := 5) (k := 1) (T := TX6) C rfl igX6 (by decide) kw_308 dX6_areStates_22 hh (fun q4 hh => ?_)
        refine ow_callV C (cv_X0_states _) (Nat.le_of_ble_eq_true rfl) kw_335 dX6_areStates_25 (as := []) (st := [.int (x1 + x2)]) rfl rfl (Nat.le_of_ble_eq_true rfl) hh (fun r6 h5 hq => ?_)
        obtain ⟨v7, rfl, hh⟩ := sr_I_e hq
        show Sat X 28 [.ref p0, .int x1, .int x2, .int x3] [.int v7, .int (x1 + x2)] h5
        refine ow_icmp_gt (tgt := 35) C dX6_areStates_28 (by decide) hh (fun hh => ?_) (fun hh => ?_)
        · skip
          refine ow_iconst (v := 0) C dX6_areStates_35 rfl ?_
          exact ow_iret Z dX6_areStates_36 (Or.inl rfl) hh
        · skip
          refine ow_iconst (v := 1) C dX6_areStates_31 rfl ?_
          refine ow_goto (tgt := 36) C dX6_areStates_32 (by decide) ?_
          exact ow_iret Z dX6_areStates_36 (Or.inr rfl) hh
def tr_X6_areStates : aw_T := fun as h Q => ∃ (p0 : Nat) (x1 : Int32) (x2 : Int32) (x3 : Int32), as = [.ref p0, .int x1, .int x2, .int x3] ∧ (sm_X6_areStates_0  Q p0 x1 x2 x3 h)
theorem tq_X6_areStates {p0 : Nat} {x1 : Int32} {x2 : Int32} {x3 : Int32} {h : aw_H} {Q : aw_R} : tr_X6_areStates [.ref p0, .int x1, .int x2, .int x3] h Q ↔ (sm_X6_areStates_0  Q p0 x1 x2 x3 h) := by
  constructor
  · rintro ⟨_, _, _, _, as0, hh⟩
    cases as0
    exact hh
  · intro hh
    exact ⟨_, _, _, _, rfl, hh⟩
theorem ct_X6_areStates (E : aw_F) : CT E yX6_areStates cX6_areStates 4 (some .boolean) 2 tr_X6_areStates := by
  refine ct_of (by decide) ?_
  intro X Q as h hE C Z hG
  subst hE
  obtain ⟨p0, x1, x2, x3, rfl, hh⟩ := hG
  refine ⟨[.ref p0, .int x1, .int x2, .int x3], rfl, Nat.le_of_ble_eq_true rfl, ?_⟩
  exact bl_X6_areStates_0 C Z p0 x1 x2 x3 h hh
theorem cv_X6_areStates (E : aw_F) : CV E yX6_areStates cX6_areStates 4 (some .boolean) 2 3 5 tr_X6_areStates := ⟨ct_X6_areStates E, by decide, kw_486, kw_487, kw_314, kw_485, by decide +kernel, _, _, rfl⟩
theorem dX6_isSheet_0 : decode cX6_isSheet 0 = .ok (.iload_n 0, 1) := by decide +kernel
theorem dX6_isSheet_1 : decode cX6_isSheet 1 = .ok (.ifCond .lt 12, 3) := by decide +kernel
theorem dX6_isSheet_4 : decode cX6_isSheet 4 = .ok (.iload_n 0, 1) := by decide +kernel
theorem dX6_isSheet_5 : decode cX6_isSheet 5 = .ok (.iconst 4, 1) := by decide +kernel
theorem dX6_isSheet_6 : decode cX6_isSheet 6 = .ok (.if_icmp .ge 7, 3) := by decide +kernel
theorem dX6_isSheet_9 : decode cX6_isSheet 9 = .ok (.iconst 1, 1) := by decide +kernel
theorem dX6_isSheet_10 : decode cX6_isSheet 10 = .ok (.goto 4, 3) := by decide +kernel
theorem dX6_isSheet_13 : decode cX6_isSheet 13 = .ok (.iconst 0, 1) := by decide +kernel
theorem dX6_isSheet_14 : decode cX6_isSheet 14 = .ok (.ireturn, 1) := by decide +kernel
def sm_X6_isSheet_0  (Q : aw_R) (x0 : Int32) (h : aw_H) : Prop :=
  if x0 < 0 then (Q (some (.int 0)) h) else (if 4 ≤ x0 then (Q (some (.int 0)) h) else (Q (some (.int 1)) h))
set_option maxRecDepth 100000 in
set_option maxHeartbeats 4000000 in
theorem bl_X6_isSheet_0 {X : aw_X} {Q : aw_R} (C : aw_C X cX6_isSheet RX6 1 0) (Z : aw_Z X cX6_isSheet (some .boolean) Q) (x0 : Int32) (h : aw_H) (hh : sm_X6_isSheet_0  Q x0 h) : Sat X 0 [.int x0] [] h := by
  unfold sm_X6_isSheet_0 at hh
  refine ow_iload_n C dX6_isSheet_0 rfl rfl ?_
  refine ow_if_lt (tgt := 13) C dX6_isSheet_1 (by decide) hh (fun hh => ?_) (fun hh => ?_)
  · skip
    refine ow_iconst (v := 0) C dX6_isSheet_13 rfl ?_
    exact ow_iret Z dX6_isSheet_14 (Or.inl rfl) hh
  · skip
    refine ow_iload_n C dX6_isSheet_4 rfl rfl ?_
    refine ow_iconst (v := 4) C dX6_isSheet_5 rfl ?_
    refine ow_icmp_ge (tgt := 13) C dX6_isSheet_6 (by decide) hh (fun hh => ?_) (fun hh => ?_)
    · skip
      refine ow_iconst (v := 0) C dX6_isSheet_13 rfl ?_
      exact ow_iret Z dX6_isSheet_14 (Or.inl rfl) hh
    · skip
      refine ow_iconst (v := 1) C dX6_isSheet_9 rfl ?_
      refine ow_goto (tgt := 14) C dX6_isSheet_10 (by decide) ?_
      exact ow_iret Z dX6_isSheet_14 (Or.inr rfl) hh
def tr_X6_isSheet : aw_T := fun as h Q => ∃ (x0 : Int32), as = [.int x0] ∧ (sm_X6_isSheet_0  Q x0 h)
theorem tq_X6_isSheet {x0 : Int32} {h : aw_H} {Q : aw_R} : tr_X6_isSheet [.int x0] h Q ↔ (sm_X6_isSheet_0  Q x0 h) := by
  constructor
  · rintro ⟨_, as0, hh⟩
    cases as0
    exact hh
  · intro hh
    exact ⟨_, rfl, hh⟩
theorem ct_X6_isSheet (E : aw_F) : CT E yX6_isSheet cX6_isSheet 1 (some .boolean) 0 tr_X6_isSheet := by
  refine ct_of (by decide) ?_
  intro X Q as h hE C Z hG
  subst hE
  obtain ⟨x0, rfl, hh⟩ := hG
  refine ⟨[.int x0], rfl, Nat.le_of_ble_eq_true rfl, ?_⟩
  exact bl_X6_isSheet_0 C Z x0 h hh
theorem cs_X6_isSheet (E : aw_F) : CS E yX6_isSheet cX6_isSheet 1 (some .boolean) 0 1 tr_X6_isSheet := ⟨ct_X6_isSheet E, by decide, kw_489, kw_314, kw_488, by decide +kernel⟩
theorem dX6_isLaneOfSheet_0 : decode cX6_isLaneOfSheet 0 = .ok (.iload_n 0, 1) := by decide +kernel
theorem dX6_isLaneOfSheet_1 : decode cX6_isLaneOfSheet 1 = .ok (.invokestatic 276, 3) := by decide +kernel
theorem dX6_isLaneOfSheet_4 : decode cX6_isLaneOfSheet 4 = .ok (.ifCond .eq 16, 3) := by decide +kernel
theorem dX6_isLaneOfSheet_7 : decode cX6_isLaneOfSheet 7 = .ok (.iload_n 1, 1) := by decide +kernel
theorem dX6_isLaneOfSheet_8 : decode cX6_isLaneOfSheet 8 = .ok (.ifCond .lt 12, 3) := by decide +kernel
theorem dX6_isLaneOfSheet_11 : decode cX6_isLaneOfSheet 11 = .ok (.iload_n 1, 1) := by decide +kernel
theorem dX6_isLaneOfSheet_12 : decode cX6_isLaneOfSheet 12 = .ok (.iconst 4, 1) := by decide +kernel
theorem dX6_isLaneOfSheet_13 : decode cX6_isLaneOfSheet 13 = .ok (.if_icmp .ge 7, 3) := by decide +kernel
theorem dX6_isLaneOfSheet_16 : decode cX6_isLaneOfSheet 16 = .ok (.iconst 1, 1) := by decide +kernel
theorem dX6_isLaneOfSheet_17 : decode cX6_isLaneOfSheet 17 = .ok (.goto 4, 3) := by decide +kernel
theorem dX6_isLaneOfSheet_20 : decode cX6_isLaneOfSheet 20 = .ok (.iconst 0, 1) := by decide +kernel
theorem dX6_isLaneOfSheet_21 : decode cX6_isLaneOfSheet 21 = .ok (.ireturn, 1) := by decide +kernel
def sm_X6_isLaneOfSheet_0  (Q : aw_R) (x0 : Int32) (x1 : Int32) (h : aw_H) : Prop :=
  tr_X6_isSheet [.int x0] h fun r2 h1 => sr_I r2 fun v3 => if v3 = 0 then (Q (some (.int 0)) h1) else (if x1 < 0 then (Q (some (.int 0)) h1) else (if 4 ≤ x1 then (Q (some (.int 0)) h1) else (Q (some (.int 1)) h1)))
set_option maxRecDepth 100000 in
set_option maxHeartbeats 4000000 in
theorem bl_X6_isLaneOfSheet_0 {X : aw_X} {Q : aw_R} (C : aw_C X cX6_isLaneOfSheet RX6 2 1) (Z : aw_Z X cX6_isLaneOfSheet (some .boolean) Q) (x0 : Int32) (x1 : Int32) (h : aw_H) (hh : sm_X6_isLaneOfSheet_0  Q x0 x1 h) : Sat X 0 [.int x0, .int x1] [] h := by
  unfold sm_X6_isLaneOfSheet_0 at hh
  refine ow_iload_n C dX6_isLaneOfSheet_0 rfl rfl ?_
  refine ow_callS C (cs_X6_isSheet _) (Nat.le_of_ble_eq_true rfl) kw_490 dX6_isLaneOfSheet_1 (as := [.int x0]) (st := []) rfl rfl (Nat.le_of_ble_eq_true rfl) hh (fun r2 h1 hq => ?_)
  obtain ⟨v3, rfl, hh⟩ := sr_I_e hq
  show Sat X 4 [.int x0, .int x1] [.int v3] h1
  refine ow_if_eq (tgt := 20) C dX6_isLaneOfSheet_4 (by decide) hh (fun hh => ?_) (fun hh => ?_)
  · skip
    refine ow_iconst (v := 0) C dX6_isLaneOfSheet_20 rfl ?_
    exact ow_iret Z dX6_isLaneOfSheet_21 (Or.inl rfl) hh
  · skip
    refine ow_iload_n C dX6_isLaneOfSheet_7 rfl rfl ?_
    refine ow_if_lt (tgt := 20) C dX6_isLaneOfSheet_8 (by decide) hh (fun hh => ?_) (fun hh => ?_)
    · skip
      refine ow_iconst (v := 0) C dX6_isLaneOfSheet_20 rfl ?_
      exact ow_iret Z dX6_isLaneOfSheet_21 (Or.inl rfl) hh
    · skip
      refine ow_iload_n C dX6_isLaneOfSheet_11 rfl rfl ?_
      refine ow_iconst (v := 4) C dX6_isLaneOfSheet_12 rfl ?_
      refine ow_icmp_ge (tgt := 20) C dX6_isLaneOfSheet_13 (by decide) hh (fun hh => ?_) (fun hh => ?_)
      · skip
        refine ow_iconst (v := 0) C dX6_isLaneOfSheet_20 rfl ?_
        exact ow_iret Z dX6_isLaneOfSheet_21 (Or.inl rfl) hh
      · skip
        refine ow_iconst (v := 1) C dX6_isLaneOfSheet_16 rfl ?_
        refine ow_goto (tgt := 21) C dX6_isLaneOfSheet_17 (by decide) ?_
        exact ow_iret Z dX6_isLaneOfSheet_21 (Or.inr rfl) hh
def tr_X6_isLaneOfSheet : aw_T := fun as h Q => ∃ (x0 : Int32) (x1 : Int32), as = [.int x0, .int x1] ∧ (sm_X6_isLaneOfSheet_0  Q x0 x1 h)
theorem tq_X6_isLaneOfSheet {x0 : Int32} {x1 : Int32} {h : aw_H} {Q : aw_R} : tr_X6_isLaneOfSheet [.int x0, .int x1] h Q ↔ (sm_X6_isLaneOfSheet_0  Q x0 x1 h) := by
  constructor
  · rintro ⟨_, _, as0, hh⟩
    cases as0
    exact hh
  · intro hh
    exact ⟨_, _, rfl, hh⟩
theorem ct_X6_isLaneOfSheet (E : aw_F) : CT E yX6_isLaneOfSheet cX6_isLaneOfSheet 2 (some .boolean) 1 tr_X6_isLaneOfSheet := by
  refine ct_of (by decide) ?_
  intro X Q as h hE C Z hG
  subst hE
  obtain ⟨x0, x1, rfl, hh⟩ := hG
  refine ⟨[.int x0, .int x1], rfl, Nat.le_of_ble_eq_true rfl, ?_⟩
  exact bl_X6_isLaneOfSheet_0 C Z x0 x1 h hh
theorem cs_X6_isLaneOfSheet (E : aw_F) : CS E yX6_isLaneOfSheet cX6_isLaneOfSheet 2 (some .boolean) 1 2 tr_X6_isLaneOfSheet := ⟨ct_X6_isLaneOfSheet E, by decide, kw_492, kw_314, kw_491, by decide +kernel⟩
theorem dX6_came_0 : decode cX6_came 0 = .ok (.iload_n 1, 1) := by decide +kernel
theorem dX6_came_1 : decode cX6_came 1 = .ok (.bipush (-2), 2) := by decide +kernel
theorem dX6_came_3 : decode cX6_came 3 = .ok (.if_icmp .lt 35, 3) := by decide +kernel
theorem dX6_came_6 : decode cX6_came 6 = .ok (.iload_n 1, 1) := by decide +kernel
theorem dX6_came_7 : decode cX6_came 7 = .ok (.aload_n 0, 1) := by decide +kernel
theorem dX6_came_8 : decode cX6_came 8 = .ok (.getfield 20, 3) := by decide +kernel
theorem dX6_came_11 : decode cX6_came 11 = .ok (.getfield 73, 3) := by decide +kernel
theorem dX6_came_14 : decode cX6_came 14 = .ok (.if_icmp .ge 24, 3) := by decide +kernel
theorem dX6_came_17 : decode cX6_came 17 = .ok (.aload_n 0, 1) := by decide +kernel
theorem dX6_came_18 : decode cX6_came 18 = .ok (.iload_n 2, 1) := by decide +kernel
theorem dX6_came_19 : decode cX6_came 19 = .ok (.iload 6, 2) := by decide +kernel
theorem dX6_came_21 : decode cX6_came 21 = .ok (.bipush 8, 2) := by decide +kernel
theorem dX6_came_23 : decode cX6_came 23 = .ok (.invokevirtual 247, 3) := by decide +kernel
theorem dX6_came_26 : decode cX6_came 26 = .ok (.ifCond .eq 12, 3) := by decide +kernel
theorem dX6_came_29 : decode cX6_came 29 = .ok (.iload_n 3, 1) := by decide +kernel
theorem dX6_came_30 : decode cX6_came 30 = .ok (.iload 4, 2) := by decide +kernel
theorem dX6_came_32 : decode cX6_came 32 = .ok (.invokestatic 251, 3) := by decide +kernel
theorem dX6_came_35 : decode cX6_came 35 = .ok (.ifCond .ne 5, 3) := by decide +kernel
theorem dX6_came_38 : decode cX6_came 38 = .ok (.iconst (-1), 1) := by decide +kernel
theorem dX6_came_39 : decode cX6_came 39 = .ok (.ireturn, 1) := by decide +kernel
theorem dX6_came_40 : decode cX6_came 40 = .ok (.aload_n 0, 1) := by decide +kernel
theorem dX6_came_41 : decode cX6_came 41 = .ok (.getfield 51, 3) := by decide +kernel
theorem dX6_came_44 : decode cX6_came 44 = .ok (.iload_n 3, 1) := by decide +kernel
theorem dX6_came_45 : decode cX6_came 45 = .ok (.aaload, 1) := by decide +kernel
theorem dX6_came_46 : decode cX6_came 46 = .ok (.astore 7, 2) := by decide +kernel
theorem dX6_came_48 : decode cX6_came 48 = .ok (.aload 7, 2) := by decide +kernel
theorem dX6_came_50 : decode cX6_came 50 = .ok (.iload 4, 2) := by decide +kernel
theorem dX6_came_52 : decode cX6_came 52 = .ok (.iload 5, 2) := by decide +kernel
theorem dX6_came_54 : decode cX6_came 54 = .ok (.iload 6, 2) := by decide +kernel
theorem dX6_came_56 : decode cX6_came 56 = .ok (.invokevirtual 254, 3) := by decide +kernel
theorem dX6_came_59 : decode cX6_came 59 = .ok (.istore 8, 2) := by decide +kernel
theorem dX6_came_61 : decode cX6_came 61 = .ok (.iload 8, 2) := by decide +kernel
theorem dX6_came_63 : decode cX6_came 63 = .ok (.ifCond .eq 6, 3) := by decide +kernel
theorem dX6_came_66 : decode cX6_came 66 = .ok (.iload 8, 2) := by decide +kernel
theorem dX6_came_68 : decode cX6_came 68 = .ok (.ireturn, 1) := by decide +kernel
theorem dX6_came_69 : decode cX6_came 69 = .ok (.iload_n 1, 1) := by decide +kernel
theorem dX6_came_70 : decode cX6_came 70 = .ok (.iconst (-1), 1) := by decide +kernel
theorem dX6_came_71 : decode cX6_came 71 = .ok (.if_icmp .ne 18, 3) := by decide +kernel
theorem dX6_came_74 : decode cX6_came 74 = .ok (.aload_n 0, 1) := by decide +kernel
theorem dX6_came_75 : decode cX6_came 75 = .ok (.getfield 10, 3) := by decide +kernel
theorem dX6_came_78 : decode cX6_came 78 = .ok (.aload 7, 2) := by decide +kernel
theorem dX6_came_80 : decode cX6_came 80 = .ok (.iload 5, 2) := by decide +kernel
theorem dX6_came_82 : decode cX6_came 82 = .ok (.iload_n 2, 1) := by decide +kernel
theorem dX6_came_83 : decode cX6_came 83 = .ok (.iload 6, 2) := by decide +kernel
theorem dX6_came_85 : decode cX6_came 85 = .ok (.invokevirtual 257, 3) := by decide +kernel
theorem dX6_came_88 : decode cX6_came 88 = .ok (.ireturn, 1) := by decide +kernel
theorem dX6_came_89 : decode cX6_came 89 = .ok (.iload_n 1, 1) := by decide +kernel
theorem dX6_came_90 : decode cX6_came 90 = .ok (.bipush (-2), 2) := by decide +kernel
theorem dX6_came_92 : decode cX6_came 92 = .ok (.if_icmp .ne 20, 3) := by decide +kernel
theorem dX6_came_95 : decode cX6_came 95 = .ok (.aload_n 0, 1) := by decide +kernel
theorem dX6_came_96 : decode cX6_came 96 = .ok (.getfield 10, 3) := by decide +kernel
theorem dX6_came_99 : decode cX6_came 99 = .ok (.aload 7, 2) := by decide +kernel
theorem dX6_came_101 : decode cX6_came 101 = .ok (.iload 5, 2) := by decide +kernel
theorem dX6_came_103 : decode cX6_came 103 = .ok (.iload_n 2, 1) := by decide +kernel
theorem dX6_came_104 : decode cX6_came 104 = .ok (.iload 6, 2) := by decide +kernel
theorem dX6_came_106 : decode cX6_came 106 = .ok (.invokevirtual 261, 3) := by decide +kernel
theorem dX6_came_109 : decode cX6_came 109 = .ok (.goto 18, 3) := by decide +kernel
theorem dX6_came_112 : decode cX6_came 112 = .ok (.aload_n 0, 1) := by decide +kernel
theorem dX6_came_113 : decode cX6_came 113 = .ok (.getfield 10, 3) := by decide +kernel
theorem dX6_came_116 : decode cX6_came 116 = .ok (.aload 7, 2) := by decide +kernel
theorem dX6_came_118 : decode cX6_came 118 = .ok (.iload 5, 2) := by decide +kernel
theorem dX6_came_120 : decode cX6_came 120 = .ok (.iload_n 2, 1) := by decide +kernel
theorem dX6_came_121 : decode cX6_came 121 = .ok (.iload 6, 2) := by decide +kernel
theorem dX6_came_123 : decode cX6_came 123 = .ok (.iload_n 1, 1) := by decide +kernel
theorem dX6_came_124 : decode cX6_came 124 = .ok (.invokevirtual 264, 3) := by decide +kernel
theorem dX6_came_127 : decode cX6_came 127 = .ok (.ireturn, 1) := by decide +kernel
def sm_X6_came_0  (Q : aw_R) (p0 : Nat) (x1 : Int32) (x2 : Int32) (x3 : Int32) (x4 : Int32) (x5 : Int32) (x6 : Int32) (h : aw_H) : Prop :=
  if x1 < ((-2)) then (Q (some (.int ((-1)))) h) else (sg_R h p0 5 1 fun q1 => sg_I h q1 0 1 fun v2 => if v2 ≤ x1 then (Q (some (.int ((-1)))) h) else (sv_O h p0 5 (tr_X6_areStates [.ref p0, .int x2, .int x6, .int 8] h fun r4 h3 => sr_I r4 fun v5 => if v5 = 0 then (Q (some (.int ((-1)))) h3) else (tr_X6_isLaneOfSheet [.int x3, .int x4] h3 fun r7 h6 => sr_I r7 fun v8 => if ¬ v8 = 0 then (sg_R h6 p0 5 8 fun q9 => sa_R h6 4 q9 x3 fun q10 => sv_O h6 q10 3 (tr_X4_faultOf [.ref q10, .int x4, .int x5, .int x6] h6 fun r12 h11 => sr_I r12 fun v13 => if v13 = 0 then (if ¬ x1 = ((-1)) then (if ¬ x1 = ((-2)) then (sg_R h11 p0 5 0 fun q14 => sv_O h11 q14 1 (tr_X1_kindsBy [.ref q14, .ref q10, .int x5, .int x2, .int x6, .int x1] h11 fun r16 h15 => sr_I r16 fun v17 => Q (some (.int v17)) h15)) else (sg_R h11 p0 5 0 fun q18 => sv_O h11 q18 1 (tr_X1_runsBy [.ref q18, .ref q10, .int x5, .int x2, .int x6] h11 fun r20 h19 => sr_I r20 fun v21 => Q (some (.int v21)) h19))) else (sg_R h11 p0 5 0 fun q22 => sv_O h11 q22 1 (tr_X1_deathsBy [.ref q22, .ref q10, .int x5, .int x2, .int x6] h11 fun r24 h23 => sr_I r24 fun v25 => Q (some (.int v25)) h23))) else (Q (some (.int v13)) h11))) else (Q (some (.int ((-1)))) h6)))))
set_option maxRecDepth 100000 in
set_option maxHeartbeats 4000000 in
theorem bl_X6_came_0 {X : aw_X} {Q : aw_R} (C : aw_C X cX6_came RX6 9 6) (Z : aw_Z X cX6_came (some .int) Q) (p0 : Nat) (x1 : Int32) (x2 : Int32) (x3 : Int32) (x4 : Int32) (x5 : Int32) (x6 : Int32) (h : aw_H) (hh : sm_X6_came_0  Q p0 x1 x2 x3 x4 x5 x6 h) : Sat X 0 [.ref p0, .int x1, .int x2, .int x3, .int x4, .int x5, .int x6, Value.null, Value.null] [] h := by
  unfold sm_X6_came_0 at hh
  refine ow_iload_n C dX6_came_0 rfl rfl ?_
  refine ow_bipush (v := (-2)) C dX6_came_1 rfl ?_
  refine ow_icmp_lt (tgt := 38) C dX6_came_3 (by decide) hh (fun hh => ?_) (fun hh => ?_)
  · skip
    refine ow_iconst (v := (-1)) C dX6_came_38 rfl ?_
    exact ow_iret Z dX6_came_39 trivial hh
  · skip
    refine ow_iload_n C dX6_came_6 rfl rfl ?_
    refine ow_aload_n C dX6_came_7 rfl rfl ?_
    refine ow_getR (ci := 5) (k := 1) (T := TX6) C rfl igX6 (by decide) kw_308 dX6_came_8 hh (fun q1 hh => ?_)
    refine ow_getI (ci := 0) (k := 1) (T := TX0) C rfl igX0 (by decide) kw_318 dX6_came_11 hh (fun v2 hh => ?_)
    refine ow_icmp_ge (tgt := 38) C dX6_came_14 (by decide) hh (fun hh => ?_) (fun hh => ?_)
    · skip
      refine ow_iconst (v := (-1)) C dX6_came_38 rfl ?_
      exact ow_iret Z dX6_came_39 trivial hh
    · skip
      refine ow_aload_n C dX6_came_17 rfl rfl ?_
      refine ow_iload_n C dX6_came_18 rfl rfl ?_
      refine ow_iload C dX6_came_19 rfl ?_
      refine ow_bipush (v := 8) C dX6_came_21 rfl ?_
      refine ow_callV C (cv_X6_areStates _) (Nat.le_of_ble_eq_true rfl) kw_493 dX6_came_23 (as := [.int x2, .int x6, .int 8]) (st := []) rfl rfl (Nat.le_of_ble_eq_true rfl) hh (fun r4 h3 hq => ?_)
      obtain ⟨v5, rfl, hh⟩ := sr_I_e hq
      show Sat X 26 [.ref p0, .int x1, .int x2, .int x3, .int x4, .int x5, .int x6, Value.null, Value.null] [.int v5] h3
      refine ow_if_eq (tgt := 38) C dX6_came_26 (by decide) hh (fun hh => ?_) (fun hh => ?_)
      · skip
        refine ow_iconst (v := (-1)) C dX6_came_38 rfl ?_
        exact ow_iret Z dX6_came_39 trivial hh
      · skip
        refine ow_iload_n C dX6_came_29 rfl rfl ?_
        refine ow_iload C dX6_came_30 rfl ?_
        refine ow_callS C (cs_X6_isLaneOfSheet _) (Nat.le_of_ble_eq_true rfl) kw_494 dX6_came_32 (as := [.int x3, .int x4]) (st := []) rfl rfl (Nat.le_of_ble_eq_true rfl) hh (fun r7 h6 hq => ?_)
        obtain ⟨v8, rfl, hh⟩ := sr_I_e hq
        show Sat X 35 [.ref p0, .int x1, .int x2, .int x3, .int x4, .int x5, .int x6, Value.null, Value.null] [.int v8] h6
        refine ow_if_ne (tgt := 40) C dX6_came_35 (by decide) hh (fun hh => ?_) (fun hh => ?_)
        · skip
          refine ow_aload_n C dX6_came_40 rfl rfl ?_
          refine ow_getR (ci := 5) (k := 8) (T := TX6) C rfl igX6 (by decide) kw_495 dX6_came_41 hh (fun q9 hh => ?_)
          refine ow_iload_n C dX6_came_44 rfl rfl ?_
          refine ow_aaload (t0 := 4) C dX6_came_45 (fun _ => rfl) hh (fun q10 hh => ?_)
          refine ow_astore (L' := [.ref p0, .int x1, .int x2, .int x3, .int x4, .int x5, .int x6, .ref q10, Value.null]) C dX6_came_46 (by decide) rfl ?_
          refine ow_aload C dX6_came_48 rfl ?_
          refine ow_iload C dX6_came_50 rfl ?_
          refine ow_iload C dX6_came_52 rfl ?_
          refine ow_iload C dX6_came_54 rfl ?_
          refine ow_callV C (cv_X4_faultOf _) (Nat.le_of_ble_eq_true rfl) kw_496 dX6_came_56 (as := [.int x4, .int x5, .int x6]) (st := []) rfl rfl (Nat.le_of_ble_eq_true rfl) hh (fun r12 h11 hq => ?_)
          obtain ⟨v13, rfl, hh⟩ := sr_I_e hq
          show Sat X 59 [.ref p0, .int x1, .int x2, .int x3, .int x4, .int x5, .int x6, .ref q10, Value.null] [.int v13] h11
          refine ow_istore (L' := [.ref p0, .int x1, .int x2, .int x3, .int x4, .int x5, .int x6, .ref q10, .int v13]) C dX6_came_59 (by decide) rfl ?_
          refine ow_iload C dX6_came_61 rfl ?_
          refine ow_if_eq (tgt := 69) C dX6_came_63 (by decide) hh (fun hh => ?_) (fun hh => ?_)
          · skip
            refine ow_iload_n C dX6_came_69 rfl rfl ?_
            refine ow_iconst (v := (-1)) C dX6_came_70 rfl ?_
            refine ow_icmp_ne (tgt := 89) C dX6_came_71 (by decide) hh (fun hh => ?_) (fun hh => ?_)
            · skip
              refine ow_iload_n C dX6_came_89 rfl rfl ?_
              refine ow_bipush (v := (-2)) C dX6_came_90 rfl ?_
              refine ow_icmp_ne (tgt := 112) C dX6_came_92 (by decide) hh (fun hh => ?_) (fun hh => ?_)
              · skip
                refine ow_aload_n C dX6_came_112 rfl rfl ?_
                refine ow_getR (ci := 5) (k := 0) (T := TX6) C rfl igX6 (by decide) kw_418 dX6_came_113 hh (fun q14 hh => ?_)
                refine ow_aload C dX6_came_116 rfl ?_
                refine ow_iload C dX6_came_118 rfl ?_
                refine ow_iload_n C dX6_came_120 rfl rfl ?_
                refine ow_iload C dX6_came_121 rfl ?_
                refine ow_iload_n C dX6_came_123 rfl rfl ?_
                refine ow_callV C (cv_X1_kindsBy _) (Nat.le_of_ble_eq_true rfl) kw_497 dX6_came_124 (as := [.ref q10, .int x5, .int x2, .int x6, .int x1]) (st := []) rfl rfl (Nat.le_of_ble_eq_true rfl) hh (fun r16 h15 hq => ?_)
                obtain ⟨v17, rfl, hh⟩ := sr_I_e hq
                show Sat X 127 [.ref p0, .int x1, .int x2, .int x3, .int x4, .int x5, .int x6, .ref q10, .int v13] [.int v17] h15
                exact ow_iret Z dX6_came_127 trivial hh
              · skip
                refine ow_aload_n C dX6_came_95 rfl rfl ?_
                refine ow_getR (ci := 5) (k := 0) (T := TX6) C rfl igX6 (by decide) kw_418 dX6_came_96 hh (fun q18 hh => ?_)
                refine ow_aload C dX6_came_99 rfl ?_
                refine ow_iload C dX6_came_101 rfl ?_
                refine ow_iload_n C dX6_came_103 rfl rfl ?_
                refine ow_iload C dX6_came_104 rfl ?_
                refine ow_callV C (cv_X1_runsBy _) (Nat.le_of_ble_eq_true rfl) kw_498 dX6_came_106 (as := [.ref q10, .int x5, .int x2, .int x6]) (st := []) rfl rfl (Nat.le_of_ble_eq_true rfl) hh (fun r20 h19 hq => ?_)
                obtain ⟨v21, rfl, hh⟩ := sr_I_e hq
                show Sat X 109 [.ref p0, .int x1, .int x2, .int x3, .int x4, .int x5, .int x6, .ref q10, .int v13] [.int v21] h19
                refine ow_goto (tgt := 127) C dX6_came_109 (by decide) ?_
                exact ow_iret Z dX6_came_127 trivial hh
            · skip
              refine ow_aload_n C dX6_came_74 rfl rfl ?_
              refine ow_getR (ci := 5) (k := 0) (T := TX6) C rfl igX6 (by decide) kw_418 dX6_came_75 hh (fun q22 hh => ?_)
              refine ow_aload C dX6_came_78 rfl ?_
              refine ow_iload C dX6_came_80 rfl ?_
              refine ow_iload_n C dX6_came_82 rfl rfl ?_
              refine ow_iload C dX6_came_83 rfl ?_
              refine ow_callV C (cv_X1_deathsBy _) (Nat.le_of_ble_eq_true rfl) kw_499 dX6_came_85 (as := [.ref q10, .int x5, .int x2, .int x6]) (st := []) rfl rfl (Nat.le_of_ble_eq_true rfl) hh (fun r24 h23 hq => ?_)
              obtain ⟨v25, rfl, hh⟩ := sr_I_e hq
              show Sat X 88 [.ref p0, .int x1, .int x2, .int x3, .int x4, .int x5, .int x6, .ref q10, .int v13] [.int v25] h23
              exact ow_iret Z dX6_came_88 trivial hh
          · skip
            refine ow_iload C dX6_came_66 rfl ?_
            exact ow_iret Z dX6_came_68 trivial hh
        · skip
          refine ow_iconst (v := (-1)) C dX6_came_38 rfl ?_
          exact ow_iret Z dX6_came_39 trivial hh
def tr_X6_came : aw_T := fun as h Q => ∃ (p0 : Nat) (x1 : Int32) (x2 : Int32) (x3 : Int32) (x4 : Int32) (x5 : Int32) (x6 : Int32), as = [.ref p0, .int x1, .int x2, .int x3, .int x4, .int x5, .int x6] ∧ (sm_X6_came_0  Q p0 x1 x2 x3 x4 x5 x6 h)
theorem tq_X6_came {p0 : Nat} {x1 : Int32} {x2 : Int32} {x3 : Int32} {x4 : Int32} {x5 : Int32} {x6 : Int32} {h : aw_H} {Q : aw_R} : tr_X6_came [.ref p0, .int x1, .int x2, .int x3, .int x4, .int x5, .int x6] h Q ↔ (sm_X6_came_0  Q p0 x1 x2 x3 x4 x5 x6 h) := by
  constructor
  · rintro ⟨_, _, _, _, _, _, _, as0, hh⟩
    cases as0
    exact hh
  · intro hh
    exact ⟨_, _, _, _, _, _, _, rfl, hh⟩
theorem ct_X6_came (E : aw_F) : CT E yX6_came cX6_came 9 (some .int) 6 tr_X6_came := by
  refine ct_of (by decide) ?_
  intro X Q as h hE C Z hG
  subst hE
  obtain ⟨p0, x1, x2, x3, x4, x5, x6, rfl, hh⟩ := hG
  refine ⟨[.ref p0, .int x1, .int x2, .int x3, .int x4, .int x5, .int x6, Value.null, Value.null], rfl, Nat.le_of_ble_eq_true rfl, ?_⟩
  exact bl_X6_came_0 C Z p0 x1 x2 x3 x4 x5 x6 h hh
theorem cv_X6_came (E : aw_F) : CV E yX6_came cX6_came 9 (some .int) 6 6 5 tr_X6_came := ⟨ct_X6_came E, by decide, kw_501, kw_502, kw_314, kw_500, by decide +kernel, _, _, rfl⟩
theorem dX6_film_0 : decode cX6_film 0 = .ok (.aload_n 0, 1) := by decide +kernel
theorem dX6_film_1 : decode cX6_film 1 = .ok (.iload_n 1, 1) := by decide +kernel
theorem dX6_film_2 : decode cX6_film 2 = .ok (.iload_n 2, 1) := by decide +kernel
theorem dX6_film_3 : decode cX6_film 3 = .ok (.bipush 24, 2) := by decide +kernel
theorem dX6_film_5 : decode cX6_film 5 = .ok (.invokevirtual 247, 3) := by decide +kernel
theorem dX6_film_8 : decode cX6_film 8 = .ok (.ifCond .eq 12, 3) := by decide +kernel
theorem dX6_film_11 : decode cX6_film 11 = .ok (.iload_n 3, 1) := by decide +kernel
theorem dX6_film_12 : decode cX6_film 12 = .ok (.iload 4, 2) := by decide +kernel
theorem dX6_film_14 : decode cX6_film 14 = .ok (.invokestatic 251, 3) := by decide +kernel
theorem dX6_film_17 : decode cX6_film 17 = .ok (.ifCond .ne 5, 3) := by decide +kernel
theorem dX6_film_20 : decode cX6_film 20 = .ok (.iconst (-1), 1) := by decide +kernel
theorem dX6_film_21 : decode cX6_film 21 = .ok (.ireturn, 1) := by decide +kernel
theorem dX6_film_22 : decode cX6_film 22 = .ok (.aload_n 0, 1) := by decide +kernel
theorem dX6_film_23 : decode cX6_film 23 = .ok (.getfield 51, 3) := by decide +kernel
theorem dX6_film_26 : decode cX6_film 26 = .ok (.iload_n 3, 1) := by decide +kernel
theorem dX6_film_27 : decode cX6_film 27 = .ok (.aaload, 1) := by decide +kernel
theorem dX6_film_28 : decode cX6_film 28 = .ok (.astore 6, 2) := by decide +kernel
theorem dX6_film_30 : decode cX6_film 30 = .ok (.aload 6, 2) := by decide +kernel
theorem dX6_film_32 : decode cX6_film 32 = .ok (.iload 4, 2) := by decide +kernel
theorem dX6_film_34 : decode cX6_film 34 = .ok (.iload 5, 2) := by decide +kernel
theorem dX6_film_36 : decode cX6_film 36 = .ok (.iload_n 2, 1) := by decide +kernel
theorem dX6_film_37 : decode cX6_film 37 = .ok (.invokevirtual 254, 3) := by decide +kernel
theorem dX6_film_40 : decode cX6_film 40 = .ok (.istore 7, 2) := by decide +kernel
theorem dX6_film_42 : decode cX6_film 42 = .ok (.iload 7, 2) := by decide +kernel
theorem dX6_film_44 : decode cX6_film 44 = .ok (.ifCond .eq 6, 3) := by decide +kernel
theorem dX6_film_47 : decode cX6_film 47 = .ok (.iload 7, 2) := by decide +kernel
theorem dX6_film_49 : decode cX6_film 49 = .ok (.ireturn, 1) := by decide +kernel
theorem dX6_film_50 : decode cX6_film 50 = .ok (.iconst 0, 1) := by decide +kernel
theorem dX6_film_51 : decode cX6_film 51 = .ok (.istore 8, 2) := by decide +kernel
theorem dX6_film_53 : decode cX6_film 53 = .ok (.iload 8, 2) := by decide +kernel
theorem dX6_film_55 : decode cX6_film 55 = .ok (.iload_n 2, 1) := by decide +kernel
theorem dX6_film_56 : decode cX6_film 56 = .ok (.if_icmp .ge 31, 3) := by decide +kernel
theorem dX6_film_59 : decode cX6_film 59 = .ok (.aload 6, 2) := by decide +kernel
theorem dX6_film_61 : decode cX6_film 61 = .ok (.iload 5, 2) := by decide +kernel
theorem dX6_film_63 : decode cX6_film 63 = .ok (.iload 8, 2) := by decide +kernel
theorem dX6_film_65 : decode cX6_film 65 = .ok (.iadd, 1) := by decide +kernel
theorem dX6_film_66 : decode cX6_film 66 = .ok (.aload_n 0, 1) := by decide +kernel
theorem dX6_film_67 : decode cX6_film 67 = .ok (.getfield 20, 3) := by decide +kernel
theorem dX6_film_70 : decode cX6_film 70 = .ok (.iload_n 1, 1) := by decide +kernel
theorem dX6_film_71 : decode cX6_film 71 = .ok (.iload 8, 2) := by decide +kernel
theorem dX6_film_73 : decode cX6_film 73 = .ok (.iadd, 1) := by decide +kernel
theorem dX6_film_74 : decode cX6_film 74 = .ok (.invokevirtual 177, 3) := by decide +kernel
theorem dX6_film_77 : decode cX6_film 77 = .ok (.i2l, 1) := by decide +kernel
theorem dX6_film_78 : decode cX6_film 78 = .ok (.invokevirtual 268, 3) := by decide +kernel
theorem dX6_film_81 : decode cX6_film 81 = .ok (.iinc 8 1, 3) := by decide +kernel
theorem dX6_film_84 : decode cX6_film 84 = .ok (.goto (-31), 3) := by decide +kernel
theorem dX6_film_87 : decode cX6_film 87 = .ok (.iload_n 2, 1) := by decide +kernel
theorem dX6_film_88 : decode cX6_film 88 = .ok (.ireturn, 1) := by decide +kernel
def sm_X6_film_53 (K53 : Nat → Int32 → Int32 → Int32 → Nat → Int32 → aw_H → Prop) (Q : aw_R) (p0 : Nat) (x1 : Int32) (x2 : Int32) (x5 : Int32) (p6 : Nat) (x8 : Int32) (h : aw_H) : Prop :=
  if x2 ≤ x8 then (Q (some (.int x2)) h) else (sg_R h p0 5 1 fun q1 => sv_O h q1 0 (tr_X0_run [.ref q1, .int (x1 + x8)] h fun r3 h2 => sr_I r3 fun v4 => sv_O h2 p6 3 (tr_X4_put [.ref p6, .int (x5 + x8), .long (Int32.toInt64 v4)] h2 fun r6 h5 => sr_V r6 <| K53 p0 x1 x2 x5 p6 (x8 + 1) h5)))
set_option maxRecDepth 100000 in
set_option maxHeartbeats 4000000 in
theorem bl_X6_film_53 {X : aw_X} {Q : aw_R} (C : aw_C X cX6_film RX6 9 4) (Z : aw_Z X cX6_film (some .int) Q) (p0 : Nat) (x1 : Int32) (x2 : Int32) (x5 : Int32) (p6 : Nat) (x8 : Int32) (h : aw_H) (hh : sm_X6_film_53 (fun (p0 : Nat) (x1 : Int32) (x2 : Int32) (x5 : Int32) (p6 : Nat) (x8 : Int32) (h : aw_H) => Sat X 53 [.ref p0, .int x1, .int x2, Value.null, Value.null, .int x5, .ref p6, Value.null, .int x8] [] h) Q p0 x1 x2 x5 p6 x8 h) : Sat X 53 [.ref p0, .int x1, .int x2, Value.null, Value.null, .int x5, .ref p6, Value.null, .int x8] [] h := by
  unfold sm_X6_film_53 at hh
  refine ow_iload C dX6_film_53 rfl ?_
  refine ow_iload_n C dX6_film_55 rfl rfl ?_
  refine ow_icmp_ge (tgt := 87) C dX6_film_56 (by decide) hh (fun hh => ?_) (fun hh => ?_)
  · skip
    refine ow_iload_n C dX6_film_87 rfl rfl ?_
    exact ow_iret Z dX6_film_88 trivial hh
  · skip
    refine ow_aload C dX6_film_59 rfl ?_
    refine ow_iload C dX6_film_61 rfl ?_
    refine ow_iload C dX6_film_63 rfl ?_
    refine ow_iadd C dX6_film_65 ?_
    refine ow_aload_n C dX6_film_66 rfl rfl ?_
    refine ow_getR (ci := 5) (k := 1) (T := TX6) C rfl igX6 (by decide) kw_308 dX6_film_67 hh (fun q1 hh => ?_)
    refine ow_iload_n C dX6_film_70 rfl rfl ?_
    refine ow_iload C dX6_film_71 rfl ?_
    refine ow_iadd C dX6_film_73 ?_
    refine ow_callV C (cv_X0_run _) (Nat.le_of_ble_eq_true rfl) kw_413 dX6_film_74 (as := [.int (x1 + x8)]) (st := [.int (x5 + x8), .ref p6]) rfl rfl (Nat.le_of_ble_eq_true rfl) hh (fun r3 h2 hq => ?_)
    obtain ⟨v4, rfl, hh⟩ := sr_I_e hq
    show Sat X 77 [.ref p0, .int x1, .int x2, Value.null, Value.null, .int x5, .ref p6, Value.null, .int x8] [.int v4, .int (x5 + x8), .ref p6] h2
    refine ow_i2l C dX6_film_77 ?_
    refine ow_callV C (cv_X4_put _) (Nat.le_of_ble_eq_true rfl) kw_503 dX6_film_78 (as := [.int (x5 + x8), .long (Int32.toInt64 v4)]) (st := []) rfl rfl (Nat.le_of_ble_eq_true rfl) hh (fun r6 h5 hq => ?_)
    obtain ⟨rfl, hh⟩ := sr_V_e hq
    show Sat X 81 [.ref p0, .int x1, .int x2, Value.null, Value.null, .int x5, .ref p6, Value.null, .int x8] [] h5
    refine ow_iinc (v := x8 + 1) (L' := [.ref p0, .int x1, .int x2, Value.null, Value.null, .int x5, .ref p6, Value.null, .int (x8 + 1)]) C dX6_film_81 rfl rfl (by decide) rfl ?_
    refine ow_goto (tgt := 53) C dX6_film_84 (by decide) ?_
    exact Sat.mask hh (mk_y (mk_y (mk_y (mk_n (mk_n (mk_y (mk_y (mk_n (mk_y mk_0)))))))))
def sm_X6_film_0 (K53 : Nat → Int32 → Int32 → Int32 → Nat → Int32 → aw_H → Prop) (Q : aw_R) (p0 : Nat) (x1 : Int32) (x2 : Int32) (x3 : Int32) (x4 : Int32) (x5 : Int32) (h : aw_H) : Prop :=
  sv_O h p0 5 (tr_X6_areStates [.ref p0, .int x1, .int x2, .int 24] h fun r2 h1 => sr_I r2 fun v3 => if v3 = 0 then (Q (some (.int ((-1)))) h1) else (tr_X6_isLaneOfSheet [.int x3, .int x4] h1 fun r5 h4 => sr_I r5 fun v6 => if ¬ v6 = 0 then (sg_R h4 p0 5 8 fun q7 => sa_R h4 4 q7 x3 fun q8 => sv_O h4 q8 3 (tr_X4_faultOf [.ref q8, .int x4, .int x5, .int x2] h4 fun r10 h9 => sr_I r10 fun v11 => if v11 = 0 then (K53 p0 x1 x2 x5 q8 0 h9) else (Q (some (.int v11)) h9))) else (Q (some (.int ((-1)))) h4)))
set_option maxRecDepth 100000 in
set_option maxHeartbeats 4000000 in
theorem bl_X6_film_0 {X : aw_X} {Q : aw_R} (C : aw_C X cX6_film RX6 9 4) (Z : aw_Z X cX6_film (some .int) Q) (p0 : Nat) (x1 : Int32) (x2 : Int32) (x3 : Int32) (x4 : Int32) (x5 : Int32) (h : aw_H) (hh : sm_X6_film_0 (fun (p0 : Nat) (x1 : Int32) (x2 : Int32) (x5 : Int32) (p6 : Nat) (x8 : Int32) (h : aw_H) => Sat X 53 [.ref p0, .int x1, .int x2, Value.null, Value.null, .int x5, .ref p6, Value.null, .int x8] [] h) Q p0 x1 x2 x3 x4 x5 h) : Sat X 0 [.ref p0, .int x1, .int x2, .int x3, .int x4, .int x5, Value.null, Value.null, Value.null] [] h := by
  unfold sm_X6_film_0 at hh
  refine ow_aload_n C dX6_film_0 rfl rfl ?_
  refine ow_iload_n C dX6_film_1 rfl rfl ?_
  refine ow_iload_n C dX6_film_2 rfl rfl ?_
  refine ow_bipush (v := 24) C dX6_film_3 rfl ?_
  refine ow_callV C (cv_X6_areStates _) (Nat.le_of_ble_eq_true rfl) kw_493 dX6_film_5 (as := [.int x1, .int x2, .int 24]) (st := []) rfl rfl (Nat.le_of_ble_eq_true rfl) hh (fun r2 h1 hq => ?_)
  obtain ⟨v3, rfl, hh⟩ := sr_I_e hq
  show Sat X 8 [.ref p0, .int x1, .int x2, .int x3, .int x4, .int x5, Value.null, Value.null, Value.null] [.int v3] h1
  refine ow_if_eq (tgt := 20) C dX6_film_8 (by decide) hh (fun hh => ?_) (fun hh => ?_)
  · skip
    refine ow_iconst (v := (-1)) C dX6_film_20 rfl ?_
    exact ow_iret Z dX6_film_21 trivial hh
  · skip
    refine ow_iload_n C dX6_film_11 rfl rfl ?_
    refine ow_iload C dX6_film_12 rfl ?_
    refine ow_callS C (cs_X6_isLaneOfSheet _) (Nat.le_of_ble_eq_true rfl) kw_494 dX6_film_14 (as := [.int x3, .int x4]) (st := []) rfl rfl (Nat.le_of_ble_eq_true rfl) hh (fun r5 h4 hq => ?_)
    obtain ⟨v6, rfl, hh⟩ := sr_I_e hq
    show Sat X 17 [.ref p0, .int x1, .int x2, .int x3, .int x4, .int x5, Value.null, Value.null, Value.null] [.int v6] h4
    refine ow_if_ne (tgt := 22) C dX6_film_17 (by decide) hh (fun hh => ?_) (fun hh => ?_)
    · skip
      refine ow_aload_n C dX6_film_22 rfl rfl ?_
      refine ow_getR (ci := 5) (k := 8) (T := TX6) C rfl igX6 (by decide) kw_495 dX6_film_23 hh (fun q7 hh => ?_)
      refine ow_iload_n C dX6_film_26 rfl rfl ?_
      refine ow_aaload (t0 := 4) C dX6_film_27 (fun _ => rfl) hh (fun q8 hh => ?_)
      refine ow_astore (L' := [.ref p0, .int x1, .int x2, .int x3, .int x4, .int x5, .ref q8, Value.null, Value.null]) C dX6_film_28 (by decide) rfl ?_
      refine ow_aload C dX6_film_30 rfl ?_
      refine ow_iload C dX6_film_32 rfl ?_
      refine ow_iload C dX6_film_34 rfl ?_
      refine ow_iload_n C dX6_film_36 rfl rfl ?_
      refine ow_callV C (cv_X4_faultOf _) (Nat.le_of_ble_eq_true rfl) kw_496 dX6_film_37 (as := [.int x4, .int x5, .int x2]) (st := []) rfl rfl (Nat.le_of_ble_eq_true rfl) hh (fun r10 h9 hq => ?_)
      obtain ⟨v11, rfl, hh⟩ := sr_I_e hq
      show Sat X 40 [.ref p0, .int x1, .int x2, .int x3, .int x4, .int x5, .ref q8, Value.null, Value.null] [.int v11] h9
      refine ow_istore (L' := [.ref p0, .int x1, .int x2, .int x3, .int x4, .int x5, .ref q8, .int v11, Value.null]) C dX6_film_40 (by decide) rfl ?_
      refine ow_iload C dX6_film_42 rfl ?_
      refine ow_if_eq (tgt := 50) C dX6_film_44 (by decide) hh (fun hh => ?_) (fun hh => ?_)
      · skip
        refine ow_iconst (v := 0) C dX6_film_50 rfl ?_
        refine ow_istore (L' := [.ref p0, .int x1, .int x2, .int x3, .int x4, .int x5, .ref q8, .int v11, .int 0]) C dX6_film_51 (by decide) rfl ?_
        exact Sat.mask hh (mk_y (mk_y (mk_y (mk_n (mk_n (mk_y (mk_y (mk_n (mk_y mk_0)))))))))
      · skip
        refine ow_iload C dX6_film_47 rfl ?_
        exact ow_iret Z dX6_film_49 trivial hh
    · skip
      refine ow_iconst (v := (-1)) C dX6_film_20 rfl ?_
      exact ow_iret Z dX6_film_21 trivial hh
def tr_X6_film : aw_T := fun as h Q => ∃ (p0 : Nat) (x1 : Int32) (x2 : Int32) (x3 : Int32) (x4 : Int32) (x5 : Int32), as = [.ref p0, .int x1, .int x2, .int x3, .int x4, .int x5] ∧ (∀ (K53 : Nat → Int32 → Int32 → Int32 → Nat → Int32 → aw_H → Prop), (∀ (p0 : Nat) (x1 : Int32) (x2 : Int32) (x5 : Int32) (p6 : Nat) (x8 : Int32) (h : aw_H), sm_X6_film_53 K53 Q p0 x1 x2 x5 p6 x8 h → K53 p0 x1 x2 x5 p6 x8 h) → sm_X6_film_0 K53 Q p0 x1 x2 x3 x4 x5 h)
theorem tq_X6_film {p0 : Nat} {x1 : Int32} {x2 : Int32} {x3 : Int32} {x4 : Int32} {x5 : Int32} {h : aw_H} {Q : aw_R} : tr_X6_film [.ref p0, .int x1, .int x2, .int x3, .int x4, .int x5] h Q ↔ (∀ (K53 : Nat → Int32 → Int32 → Int32 → Nat → Int32 → aw_H → Prop), (∀ (p0 : Nat) (x1 : Int32) (x2 : Int32) (x5 : Int32) (p6 : Nat) (x8 : Int32) (h : aw_H), sm_X6_film_53 K53 Q p0 x1 x2 x5 p6 x8 h → K53 p0 x1 x2 x5 p6 x8 h) → sm_X6_film_0 K53 Q p0 x1 x2 x3 x4 x5 h) := by
  constructor
  · rintro ⟨_, _, _, _, _, _, as0, hh⟩
    cases as0
    exact hh
  · intro hh
    exact ⟨_, _, _, _, _, _, rfl, hh⟩
theorem ct_X6_film (E : aw_F) : CT E yX6_film cX6_film 9 (some .int) 4 tr_X6_film := by
  refine ct_of (by decide) ?_
  intro X Q as h hE C Z hG
  subst hE
  obtain ⟨p0, x1, x2, x3, x4, x5, rfl, hh⟩ := hG
  refine ⟨[.ref p0, .int x1, .int x2, .int x3, .int x4, .int x5, Value.null, Value.null, Value.null], rfl, Nat.le_of_ble_eq_true rfl, ?_⟩
  exact bl_X6_film_0 C Z p0 x1 x2 x3 x4 x5 h (hh (fun (p0 : Nat) (x1 : Int32) (x2 : Int32) (x5 : Int32) (p6 : Nat) (x8 : Int32) (h : aw_H) => Sat X 53 [.ref p0, .int x1, .int x2, Value.null, Value.null, .int x5, .ref p6, Value.null, .int x8] [] h) (fun p0 x1 x2 x5 p6 x8 h hh => bl_X6_film_53 C Z p0 x1 x2 x5 p6 x8 h hh))
theorem cv_X6_film (E : aw_F) : CV E yX6_film cX6_film 9 (some .int) 4 5 5 tr_X6_film := ⟨ct_X6_film E, by decide, kw_505, kw_506, kw_314, kw_504, by decide +kernel, _, _, rfl⟩
theorem dX6_sheet_0 : decode cX6_sheet 0 = .ok (.iload_n 1, 1) := by decide +kernel
theorem dX6_sheet_1 : decode cX6_sheet 1 = .ok (.iload_n 2, 1) := by decide +kernel
theorem dX6_sheet_2 : decode cX6_sheet 2 = .ok (.invokestatic 251, 3) := by decide +kernel
theorem dX6_sheet_5 : decode cX6_sheet 5 = .ok (.ifCond .eq 9, 3) := by decide +kernel
theorem dX6_sheet_8 : decode cX6_sheet 8 = .ok (.iload_n 3, 1) := by decide +kernel
theorem dX6_sheet_9 : decode cX6_sheet 9 = .ok (.bipush 24, 2) := by decide +kernel
theorem dX6_sheet_11 : decode cX6_sheet 11 = .ok (.if_icmp .le 5, 3) := by decide +kernel
theorem dX6_sheet_14 : decode cX6_sheet 14 = .ok (.iconst (-1), 1) := by decide +kernel
theorem dX6_sheet_15 : decode cX6_sheet 15 = .ok (.ireturn, 1) := by decide +kernel
theorem dX6_sheet_16 : decode cX6_sheet 16 = .ok (.iload_n 3, 1) := by decide +kernel
theorem dX6_sheet_17 : decode cX6_sheet 17 = .ok (.ifCond .ge 6, 3) := by decide +kernel
theorem dX6_sheet_20 : decode cX6_sheet 20 = .ok (.bipush (-14), 2) := by decide +kernel
theorem dX6_sheet_22 : decode cX6_sheet 22 = .ok (.ireturn, 1) := by decide +kernel
theorem dX6_sheet_23 : decode cX6_sheet 23 = .ok (.aload_n 0, 1) := by decide +kernel
theorem dX6_sheet_24 : decode cX6_sheet 24 = .ok (.getfield 51, 3) := by decide +kernel
theorem dX6_sheet_27 : decode cX6_sheet 27 = .ok (.iload_n 1, 1) := by decide +kernel
theorem dX6_sheet_28 : decode cX6_sheet 28 = .ok (.aaload, 1) := by decide +kernel
theorem dX6_sheet_29 : decode cX6_sheet 29 = .ok (.iload_n 2, 1) := by decide +kernel
theorem dX6_sheet_30 : decode cX6_sheet 30 = .ok (.iload_n 3, 1) := by decide +kernel
theorem dX6_sheet_31 : decode cX6_sheet 31 = .ok (.invokevirtual 272, 3) := by decide +kernel
theorem dX6_sheet_34 : decode cX6_sheet 34 = .ok (.iload_n 3, 1) := by decide +kernel
theorem dX6_sheet_35 : decode cX6_sheet 35 = .ok (.ireturn, 1) := by decide +kernel
def sm_X6_sheet_0  (Q : aw_R) (p0 : Nat) (x1 : Int32) (x2 : Int32) (x3 : Int32) (h : aw_H) : Prop :=
  tr_X6_isLaneOfSheet [.int x1, .int x2] h fun r2 h1 => sr_I r2 fun v3 => if v3 = 0 then (Q (some (.int ((-1)))) h1) else (if x3 ≤ 24 then (if 0 ≤ x3 then (sg_R h1 p0 5 8 fun q4 => sa_R h1 4 q4 x1 fun q5 => sv_O h1 q5 3 (tr_X4_begin [.ref q5, .int x2, .int x3] h1 fun r7 h6 => sr_V r7 <| Q (some (.int x3)) h6)) else (Q (some (.int ((-14)))) h1)) else (Q (some (.int ((-1)))) h1))
set_option maxRecDepth 100000 in
set_option maxHeartbeats 4000000 in
theorem bl_X6_sheet_0 {X : aw_X} {Q : aw_R} (C : aw_C X cX6_sheet RX6 4 2) (Z : aw_Z X cX6_sheet (some .int) Q) (p0 : Nat) (x1 : Int32) (x2 : Int32) (x3 : Int32) (h : aw_H) (hh : sm_X6_sheet_0  Q p0 x1 x2 x3 h) : Sat X 0 [.ref p0, .int x1, .int x2, .int x3] [] h := by
  unfold sm_X6_sheet_0 at hh
  refine ow_iload_n C dX6_sheet_0 rfl rfl ?_
  refine ow_iload_n C dX6_sheet_1 rfl rfl ?_
  refine ow_callS C (cs_X6_isLaneOfSheet _) (Nat.le_of_ble_eq_true rfl) kw_494 dX6_sheet_2 (as := [.int x1, .int x2]) (st := []) rfl rfl (Nat.le_of_ble_eq_true rfl) hh (fun r2 h1 hq => ?_)
  obtain ⟨v3, rfl, hh⟩ := sr_I_e hq
  show Sat X 5 [.ref p0, .int x1, .int x2, .int x3] [.int v3] h1
  refine ow_if_eq (tgt := 14) C dX6_sheet_5 (by decide) hh (fun hh => ?_) (fun hh => ?_)
  · skip
    refine ow_iconst (v := (-1)) C dX6_sheet_14 rfl ?_
    exact ow_iret Z dX6_sheet_15 trivial hh
  · skip
    refine ow_iload_n C dX6_sheet_8 rfl rfl ?_
    refine ow_bipush (v := 24) C dX6_sheet_9 rfl ?_
    refine ow_icmp_le (tgt := 16) C dX6_sheet_11 (by decide) hh (fun hh => ?_) (fun hh => ?_)
    · skip
      refine ow_iload_n C dX6_sheet_16 rfl rfl ?_
      refine ow_if_ge (tgt := 23) C dX6_sheet_17 (by decide) hh (fun hh => ?_) (fun hh => ?_)
      · skip
        refine ow_aload_n C dX6_sheet_23 rfl rfl ?_
        refine ow_getR (ci := 5) (k := 8) (T := TX6) C rfl igX6 (by decide) kw_495 dX6_sheet_24 hh (fun q4 hh => ?_)
        refine ow_iload_n C dX6_sheet_27 rfl rfl ?_
        refine ow_aaload (t0 := 4) C dX6_sheet_28 (fun _ => rfl) hh (fun q5 hh => ?_)
        refine ow_iload_n C dX6_sheet_29 rfl rfl ?_
        refine ow_iload_n C dX6_sheet_30 rfl rfl ?_
        refine ow_callV C (cv_X4_begin _) (Nat.le_of_ble_eq_true rfl) kw_507 dX6_sheet_31 (as := [.int x2, .int x3]) (st := []) rfl rfl (Nat.le_of_ble_eq_true rfl) hh (fun r7 h6 hq => ?_)
        obtain ⟨rfl, hh⟩ := sr_V_e hq
        show Sat X 34 [.ref p0, .int x1, .int x2, .int x3] [] h6
        refine ow_iload_n C dX6_sheet_34 rfl rfl ?_
        exact ow_iret Z dX6_sheet_35 trivial hh
      · skip
        refine ow_bipush (v := (-14)) C dX6_sheet_20 rfl ?_
        exact ow_iret Z dX6_sheet_22 trivial hh
    · skip
      refine ow_iconst (v := (-1)) C dX6_sheet_14 rfl ?_
      exact ow_iret Z dX6_sheet_15 trivial hh
def tr_X6_sheet : aw_T := fun as h Q => ∃ (p0 : Nat) (x1 : Int32) (x2 : Int32) (x3 : Int32), as = [.ref p0, .int x1, .int x2, .int x3] ∧ (sm_X6_sheet_0  Q p0 x1 x2 x3 h)
theorem tq_X6_sheet {p0 : Nat} {x1 : Int32} {x2 : Int32} {x3 : Int32} {h : aw_H} {Q : aw_R} : tr_X6_sheet [.ref p0, .int x1, .int x2, .int x3] h Q ↔ (sm_X6_sheet_0  Q p0 x1 x2 x3 h) := by
  constructor
  · rintro ⟨_, _, _, _, as0, hh⟩
    cases as0
    exact hh
  · intro hh
    exact ⟨_, _, _, _, rfl, hh⟩
theorem ct_X6_sheet (E : aw_F) : CT E yX6_sheet cX6_sheet 4 (some .int) 2 tr_X6_sheet := by
  refine ct_of (by decide) ?_
  intro X Q as h hE C Z hG
  subst hE
  obtain ⟨p0, x1, x2, x3, rfl, hh⟩ := hG
  refine ⟨[.ref p0, .int x1, .int x2, .int x3], rfl, Nat.le_of_ble_eq_true rfl, ?_⟩
  exact bl_X6_sheet_0 C Z p0 x1 x2 x3 h hh
theorem cv_X6_sheet (E : aw_F) : CV E yX6_sheet cX6_sheet 4 (some .int) 2 3 5 tr_X6_sheet := ⟨ct_X6_sheet E, by decide, kw_509, kw_510, kw_314, kw_508, by decide +kernel, _, _, rfl⟩
theorem dX6_drop_0 : decode cX6_drop 0 = .ok (.iload_n 1, 1) := by decide +kernel
theorem dX6_drop_1 : decode cX6_drop 1 = .ok (.invokestatic 276, 3) := by decide +kernel
theorem dX6_drop_4 : decode cX6_drop 4 = .ok (.ifCond .ne 5, 3) := by decide +kernel
theorem dX6_drop_7 : decode cX6_drop 7 = .ok (.iconst (-1), 1) := by decide +kernel
theorem dX6_drop_8 : decode cX6_drop 8 = .ok (.ireturn, 1) := by decide +kernel
theorem dX6_drop_9 : decode cX6_drop 9 = .ok (.aload_n 0, 1) := by decide +kernel
theorem dX6_drop_10 : decode cX6_drop 10 = .ok (.getfield 51, 3) := by decide +kernel
theorem dX6_drop_13 : decode cX6_drop 13 = .ok (.iload_n 1, 1) := by decide +kernel
theorem dX6_drop_14 : decode cX6_drop 14 = .ok (.aaload, 1) := by decide +kernel
theorem dX6_drop_15 : decode cX6_drop 15 = .ok (.astore_n 2, 1) := by decide +kernel
theorem dX6_drop_16 : decode cX6_drop 16 = .ok (.aload_n 2, 1) := by decide +kernel
theorem dX6_drop_17 : decode cX6_drop 17 = .ok (.getfield 279, 3) := by decide +kernel
theorem dX6_drop_20 : decode cX6_drop 20 = .ok (.ifCond .ne 6, 3) := by decide +kernel
theorem dX6_drop_23 : decode cX6_drop 23 = .ok (.bipush (-11), 2) := by decide +kernel
theorem dX6_drop_25 : decode cX6_drop 25 = .ok (.ireturn, 1) := by decide +kernel
theorem dX6_drop_26 : decode cX6_drop 26 = .ok (.aload_n 2, 1) := by decide +kernel
theorem dX6_drop_27 : decode cX6_drop 27 = .ok (.iconst 0, 1) := by decide +kernel
theorem dX6_drop_28 : decode cX6_drop 28 = .ok (.putfield 279, 3) := by decide +kernel
theorem dX6_drop_31 : decode cX6_drop 31 = .ok (.aload_n 2, 1) := by decide +kernel
theorem dX6_drop_32 : decode cX6_drop 32 = .ok (.getfield 282, 3) := by decide +kernel
theorem dX6_drop_35 : decode cX6_drop 35 = .ok (.ireturn, 1) := by decide +kernel
def sm_X6_drop_0  (Q : aw_R) (p0 : Nat) (x1 : Int32) (h : aw_H) : Prop :=
  tr_X6_isSheet [.int x1] h fun r2 h1 => sr_I r2 fun v3 => if ¬ v3 = 0 then (sg_R h1 p0 5 8 fun q4 => sa_R h1 4 q4 x1 fun q5 => sg_I h1 q5 3 0 fun v6 => if ¬ v6 = 0 then (sp_I h1 q5 3 0 0 fun h7 => sg_I h7 q5 3 2 fun v8 => Q (some (.int v8)) h7) else (Q (some (.int ((-11)))) h1)) else (Q (some (.int ((-1)))) h1)
set_option maxRecDepth 100000 in
set_option maxHeartbeats 4000000 in
theorem bl_X6_drop_0 {X : aw_X} {Q : aw_R} (C : aw_C X cX6_drop RX6 3 1) (Z : aw_Z X cX6_drop (some .int) Q) (p0 : Nat) (x1 : Int32) (h : aw_H) (hh : sm_X6_drop_0  Q p0 x1 h) : Sat X 0 [.ref p0, .int x1, Value.null] [] h := by
  unfold sm_X6_drop_0 at hh
  refine ow_iload_n C dX6_drop_0 rfl rfl ?_
  refine ow_callS C (cs_X6_isSheet _) (Nat.le_of_ble_eq_true rfl) kw_490 dX6_drop_1 (as := [.int x1]) (st := []) rfl rfl (Nat.le_of_ble_eq_true rfl) hh (fun r2 h1 hq => ?_)
  obtain ⟨v3, rfl, hh⟩ := sr_I_e hq
  show Sat X 4 [.ref p0, .int x1, Value.null] [.int v3] h1
  refine ow_if_ne (tgt := 9) C dX6_drop_4 (by decide) hh (fun hh => ?_) (fun hh => ?_)
  · skip
    refine ow_aload_n C dX6_drop_9 rfl rfl ?_
    refine ow_getR (ci := 5) (k := 8) (T := TX6) C rfl igX6 (by decide) kw_495 dX6_drop_10 hh (fun q4 hh => ?_)
    refine ow_iload_n C dX6_drop_13 rfl rfl ?_
    refine ow_aaload (t0 := 4) C dX6_drop_14 (fun _ => rfl) hh (fun q5 hh => ?_)
    refine ow_astore_n (L' := [.ref p0, .int x1, .ref q5]) C dX6_drop_15 rfl (by decide) rfl ?_
    refine ow_aload_n C dX6_drop_16 rfl rfl ?_
    refine ow_getI (ci := 3) (k := 0) (T := TX4) C rfl igX4 (by decide) kw_511 dX6_drop_17 hh (fun v6 hh => ?_)
    refine ow_if_ne (tgt := 26) C dX6_drop_20 (by decide) hh (fun hh => ?_) (fun hh => ?_)
    · skip
      refine ow_aload_n C dX6_drop_26 rfl rfl ?_
      refine ow_iconst (v := 0) C dX6_drop_27 rfl ?_
      refine ow_putZ (ci := 3) (k := 0) (T := TX4) C rfl igX4 tyX4 tyX4_ok nmX4 (by decide) kw_511 rfl (by decide +kernel) (Or.inl rfl) dX6_drop_28 hh (fun h7 hh => ?_)
      refine ow_aload_n C dX6_drop_31 rfl rfl ?_
      refine ow_getI (ci := 3) (k := 2) (T := TX4) C rfl igX4 (by decide) kw_512 dX6_drop_32 hh (fun v8 hh => ?_)
      exact ow_iret Z dX6_drop_35 trivial hh
    · skip
      refine ow_bipush (v := (-11)) C dX6_drop_23 rfl ?_
      exact ow_iret Z dX6_drop_25 trivial hh
  · skip
    refine ow_iconst (v := (-1)) C dX6_drop_7 rfl ?_
    exact ow_iret Z dX6_drop_8 trivial hh
def tr_X6_drop : aw_T := fun as h Q => ∃ (p0 : Nat) (x1 : Int32), as = [.ref p0, .int x1] ∧ (sm_X6_drop_0  Q p0 x1 h)
theorem tq_X6_drop {p0 : Nat} {x1 : Int32} {h : aw_H} {Q : aw_R} : tr_X6_drop [.ref p0, .int x1] h Q ↔ (sm_X6_drop_0  Q p0 x1 h) := by
  constructor
  · rintro ⟨_, _, as0, hh⟩
    cases as0
    exact hh
  · intro hh
    exact ⟨_, _, rfl, hh⟩
theorem ct_X6_drop (E : aw_F) : CT E yX6_drop cX6_drop 3 (some .int) 1 tr_X6_drop := by
  refine ct_of (by decide) ?_
  intro X Q as h hE C Z hG
  subst hE
  obtain ⟨p0, x1, rfl, hh⟩ := hG
  refine ⟨[.ref p0, .int x1, Value.null], rfl, Nat.le_of_ble_eq_true rfl, ?_⟩
  exact bl_X6_drop_0 C Z p0 x1 h hh
theorem cv_X6_drop (E : aw_F) : CV E yX6_drop cX6_drop 3 (some .int) 1 1 5 tr_X6_drop := ⟨ct_X6_drop E, by decide, kw_514, kw_515, kw_314, kw_513, by decide +kernel, _, _, rfl⟩
theorem dX6_item_0 : decode cX6_item 0 = .ok (.iload_n 1, 1) := by decide +kernel
theorem dX6_item_1 : decode cX6_item 1 = .ok (.iload_n 2, 1) := by decide +kernel
theorem dX6_item_2 : decode cX6_item 2 = .ok (.invokestatic 251, 3) := by decide +kernel
theorem dX6_item_5 : decode cX6_item 5 = .ok (.ifCond .ne 5, 3) := by decide +kernel
theorem dX6_item_8 : decode cX6_item 8 = .ok (.iconst (-1), 1) := by decide +kernel
theorem dX6_item_9 : decode cX6_item 9 = .ok (.ireturn, 1) := by decide +kernel
theorem dX6_item_10 : decode cX6_item 10 = .ok (.aload_n 0, 1) := by decide +kernel
theorem dX6_item_11 : decode cX6_item 11 = .ok (.getfield 51, 3) := by decide +kernel
theorem dX6_item_14 : decode cX6_item 14 = .ok (.iload_n 1, 1) := by decide +kernel
theorem dX6_item_15 : decode cX6_item 15 = .ok (.aaload, 1) := by decide +kernel
theorem dX6_item_16 : decode cX6_item 16 = .ok (.astore 6, 2) := by decide +kernel
theorem dX6_item_18 : decode cX6_item 18 = .ok (.aload 6, 2) := by decide +kernel
theorem dX6_item_20 : decode cX6_item 20 = .ok (.iload_n 2, 1) := by decide +kernel
theorem dX6_item_21 : decode cX6_item 21 = .ok (.iload_n 3, 1) := by decide +kernel
theorem dX6_item_22 : decode cX6_item 22 = .ok (.iconst 1, 1) := by decide +kernel
theorem dX6_item_23 : decode cX6_item 23 = .ok (.invokevirtual 254, 3) := by decide +kernel
theorem dX6_item_26 : decode cX6_item 26 = .ok (.istore 7, 2) := by decide +kernel
theorem dX6_item_28 : decode cX6_item 28 = .ok (.iload 7, 2) := by decide +kernel
theorem dX6_item_30 : decode cX6_item 30 = .ok (.ifCond .eq 6, 3) := by decide +kernel
theorem dX6_item_33 : decode cX6_item 33 = .ok (.iload 7, 2) := by decide +kernel
theorem dX6_item_35 : decode cX6_item 35 = .ok (.ireturn, 1) := by decide +kernel
theorem dX6_item_36 : decode cX6_item 36 = .ok (.aload 6, 2) := by decide +kernel
theorem dX6_item_38 : decode cX6_item 38 = .ok (.iload_n 3, 1) := by decide +kernel
theorem dX6_item_39 : decode cX6_item 39 = .ok (.lload 4, 2) := by decide +kernel
theorem dX6_item_41 : decode cX6_item 41 = .ok (.invokevirtual 268, 3) := by decide +kernel
theorem dX6_item_44 : decode cX6_item 44 = .ok (.iconst 1, 1) := by decide +kernel
theorem dX6_item_45 : decode cX6_item 45 = .ok (.ireturn, 1) := by decide +kernel
def sm_X6_item_0  (Q : aw_R) (p0 : Nat) (x1 : Int32) (x2 : Int32) (x3 : Int32) (w4 : Int64) (h : aw_H) : Prop :=
  tr_X6_isLaneOfSheet [.int x1, .int x2] h fun r2 h1 => sr_I r2 fun v3 => if ¬ v3 = 0 then (sg_R h1 p0 5 8 fun q4 => sa_R h1 4 q4 x1 fun q5 => sv_O h1 q5 3 (tr_X4_faultOf [.ref q5, .int x2, .int x3, .int 1] h1 fun r7 h6 => sr_I r7 fun v8 => if v8 = 0 then (sv_O h6 q5 3 (tr_X4_put [.ref q5, .int x3, .long w4] h6 fun r10 h9 => sr_V r10 <| Q (some (.int 1)) h9)) else (Q (some (.int v8)) h6))) else (Q (some (.int ((-1)))) h1)
set_option maxRecDepth 100000 in
set_option maxHeartbeats 4000000 in
theorem bl_X6_item_0 {X : aw_X} {Q : aw_R} (C : aw_C X cX6_item RX6 8 2) (Z : aw_Z X cX6_item (some .int) Q) (p0 : Nat) (x1 : Int32) (x2 : Int32) (x3 : Int32) (w4 : Int64) (h : aw_H) (hh : sm_X6_item_0  Q p0 x1 x2 x3 w4 h) : Sat X 0 [.ref p0, .int x1, .int x2, .int x3, .long w4, Value.null, Value.null, Value.null] [] h := by
  unfold sm_X6_item_0 at hh
  refine ow_iload_n C dX6_item_0 rfl rfl ?_
  refine ow_iload_n C dX6_item_1 rfl rfl ?_
  refine ow_callS C (cs_X6_isLaneOfSheet _) (Nat.le_of_ble_eq_true rfl) kw_494 dX6_item_2 (as := [.int x1, .int x2]) (st := []) rfl rfl (Nat.le_of_ble_eq_true rfl) hh (fun r2 h1 hq => ?_)
  obtain ⟨v3, rfl, hh⟩ := sr_I_e hq
  show Sat X 5 [.ref p0, .int x1, .int x2, .int x3, .long w4, Value.null, Value.null, Value.null] [.int v3] h1
  refine ow_if_ne (tgt := 10) C dX6_item_5 (by decide) hh (fun hh => ?_) (fun hh => ?_)
  · skip
    refine ow_aload_n C dX6_item_10 rfl rfl ?_
    refine ow_getR (ci := 5) (k := 8) (T := TX6) C rfl igX6 (by decide) kw_495 dX6_item_11 hh (fun q4 hh => ?_)
    refine ow_iload_n C dX6_item_14 rfl rfl ?_
    refine ow_aaload (t0 := 4) C dX6_item_15 (fun _ => rfl) hh (fun q5 hh => ?_)
    refine ow_astore (L' := [.ref p0, .int x1, .int x2, .int x3, .long w4, Value.null, .ref q5, Value.null]) C dX6_item_16 (by decide) rfl ?_
    refine ow_aload C dX6_item_18 rfl ?_
    refine ow_iload_n C dX6_item_20 rfl rfl ?_
    refine ow_iload_n C dX6_item_21 rfl rfl ?_
    refine ow_iconst (v := 1) C dX6_item_22 rfl ?_
    refine ow_callV C (cv_X4_faultOf _) (Nat.le_of_ble_eq_true rfl) kw_496 dX6_item_23 (as := [.int x2, .int x3, .int 1]) (st := []) rfl rfl (Nat.le_of_ble_eq_true rfl) hh (fun r7 h6 hq => ?_)
    obtain ⟨v8, rfl, hh⟩ := sr_I_e hq
    show Sat X 26 [.ref p0, .int x1, .int x2, .int x3, .long w4, Value.null, .ref q5, Value.null] [.int v8] h6
    refine ow_istore (L' := [.ref p0, .int x1, .int x2, .int x3, .long w4, Value.null, .ref q5, .int v8]) C dX6_item_26 (by decide) rfl ?_
    refine ow_iload C dX6_item_28 rfl ?_
    refine ow_if_eq (tgt := 36) C dX6_item_30 (by decide) hh (fun hh => ?_) (fun hh => ?_)
    · skip
      refine ow_aload C dX6_item_36 rfl ?_
      refine ow_iload_n C dX6_item_38 rfl rfl ?_
      refine ow_lload C dX6_item_39 rfl ?_
      refine ow_callV C (cv_X4_put _) (Nat.le_of_ble_eq_true rfl) kw_503 dX6_item_41 (as := [.int x3, .long w4]) (st := []) rfl rfl (Nat.le_of_ble_eq_true rfl) hh (fun r10 h9 hq => ?_)
      obtain ⟨rfl, hh⟩ := sr_V_e hq
      show Sat X 44 [.ref p0, .int x1, .int x2, .int x3, .long w4, Value.null, .ref q5, .int v8] [] h9
      refine ow_iconst (v := 1) C dX6_item_44 rfl ?_
      exact ow_iret Z dX6_item_45 trivial hh
    · skip
      refine ow_iload C dX6_item_33 rfl ?_
      exact ow_iret Z dX6_item_35 trivial hh
  · skip
    refine ow_iconst (v := (-1)) C dX6_item_8 rfl ?_
    exact ow_iret Z dX6_item_9 trivial hh
def tr_X6_item : aw_T := fun as h Q => ∃ (p0 : Nat) (x1 : Int32) (x2 : Int32) (x3 : Int32) (w4 : Int64), as = [.ref p0, .int x1, .int x2, .int x3, .long w4] ∧ (sm_X6_item_0  Q p0 x1 x2 x3 w4 h)
theorem tq_X6_item {p0 : Nat} {x1 : Int32} {x2 : Int32} {x3 : Int32} {w4 : Int64} {h : aw_H} {Q : aw_R} : tr_X6_item [.ref p0, .int x1, .int x2, .int x3, .long w4] h Q ↔ (sm_X6_item_0  Q p0 x1 x2 x3 w4 h) := by
  constructor
  · rintro ⟨_, _, _, _, _, as0, hh⟩
    cases as0
    exact hh
  · intro hh
    exact ⟨_, _, _, _, _, rfl, hh⟩
theorem ct_X6_item (E : aw_F) : CT E yX6_item cX6_item 8 (some .int) 2 tr_X6_item := by
  refine ct_of (by decide) ?_
  intro X Q as h hE C Z hG
  subst hE
  obtain ⟨p0, x1, x2, x3, w4, rfl, hh⟩ := hG
  refine ⟨[.ref p0, .int x1, .int x2, .int x3, .long w4, Value.null, Value.null, Value.null], rfl, Nat.le_of_ble_eq_true rfl, ?_⟩
  exact bl_X6_item_0 C Z p0 x1 x2 x3 w4 h hh
theorem cv_X6_item (E : aw_F) : CV E yX6_item cX6_item 8 (some .int) 2 4 5 tr_X6_item := ⟨ct_X6_item E, by decide, kw_517, kw_518, kw_314, kw_516, by decide +kernel, _, _, rfl⟩
theorem dX6_copy_0 : decode cX6_copy 0 = .ok (.iload_n 1, 1) := by decide +kernel
theorem dX6_copy_1 : decode cX6_copy 1 = .ok (.invokestatic 276, 3) := by decide +kernel
theorem dX6_copy_4 : decode cX6_copy 4 = .ok (.ifCond .eq 10, 3) := by decide +kernel
theorem dX6_copy_7 : decode cX6_copy 7 = .ok (.iload_n 3, 1) := by decide +kernel
theorem dX6_copy_8 : decode cX6_copy 8 = .ok (.invokestatic 276, 3) := by decide +kernel
theorem dX6_copy_11 : decode cX6_copy 11 = .ok (.ifCond .ne 5, 3) := by decide +kernel
theorem dX6_copy_14 : decode cX6_copy 14 = .ok (.iconst (-1), 1) := by decide +kernel
theorem dX6_copy_15 : decode cX6_copy 15 = .ok (.ireturn, 1) := by decide +kernel
theorem dX6_copy_16 : decode cX6_copy 16 = .ok (.aload_n 0, 1) := by decide +kernel
theorem dX6_copy_17 : decode cX6_copy 17 = .ok (.getfield 51, 3) := by decide +kernel
theorem dX6_copy_20 : decode cX6_copy 20 = .ok (.iload_n 1, 1) := by decide +kernel
theorem dX6_copy_21 : decode cX6_copy 21 = .ok (.aaload, 1) := by decide +kernel
theorem dX6_copy_22 : decode cX6_copy 22 = .ok (.astore 6, 2) := by decide +kernel
theorem dX6_copy_24 : decode cX6_copy 24 = .ok (.aload_n 0, 1) := by decide +kernel
theorem dX6_copy_25 : decode cX6_copy 25 = .ok (.getfield 51, 3) := by decide +kernel
theorem dX6_copy_28 : decode cX6_copy 28 = .ok (.iload_n 3, 1) := by decide +kernel
theorem dX6_copy_29 : decode cX6_copy 29 = .ok (.aaload, 1) := by decide +kernel
theorem dX6_copy_30 : decode cX6_copy 30 = .ok (.astore 7, 2) := by decide +kernel
theorem dX6_copy_32 : decode cX6_copy 32 = .ok (.aload 6, 2) := by decide +kernel
theorem dX6_copy_34 : decode cX6_copy 34 = .ok (.getfield 279, 3) := by decide +kernel
theorem dX6_copy_37 : decode cX6_copy 37 = .ok (.ifCond .eq 11, 3) := by decide +kernel
theorem dX6_copy_40 : decode cX6_copy 40 = .ok (.aload 7, 2) := by decide +kernel
theorem dX6_copy_42 : decode cX6_copy 42 = .ok (.getfield 279, 3) := by decide +kernel
theorem dX6_copy_45 : decode cX6_copy 45 = .ok (.ifCond .ne 6, 3) := by decide +kernel
theorem dX6_copy_48 : decode cX6_copy 48 = .ok (.bipush (-11), 2) := by decide +kernel
theorem dX6_copy_50 : decode cX6_copy 50 = .ok (.ireturn, 1) := by decide +kernel
theorem dX6_copy_51 : decode cX6_copy 51 = .ok (.aload 6, 2) := by decide +kernel
theorem dX6_copy_53 : decode cX6_copy 53 = .ok (.getfield 285, 3) := by decide +kernel
theorem dX6_copy_56 : decode cX6_copy 56 = .ok (.aload 7, 2) := by decide +kernel
theorem dX6_copy_58 : decode cX6_copy 58 = .ok (.getfield 285, 3) := by decide +kernel
theorem dX6_copy_61 : decode cX6_copy 61 = .ok (.if_icmp .eq 6, 3) := by decide +kernel
theorem dX6_copy_64 : decode cX6_copy 64 = .ok (.bipush (-12), 2) := by decide +kernel
theorem dX6_copy_66 : decode cX6_copy 66 = .ok (.ireturn, 1) := by decide +kernel
theorem dX6_copy_67 : decode cX6_copy 67 = .ok (.aload 6, 2) := by decide +kernel
theorem dX6_copy_69 : decode cX6_copy 69 = .ok (.iload_n 2, 1) := by decide +kernel
theorem dX6_copy_70 : decode cX6_copy 70 = .ok (.iload 5, 2) := by decide +kernel
theorem dX6_copy_72 : decode cX6_copy 72 = .ok (.invokevirtual 288, 3) := by decide +kernel
theorem dX6_copy_75 : decode cX6_copy 75 = .ok (.ifCond .eq 15, 3) := by decide +kernel
theorem dX6_copy_78 : decode cX6_copy 78 = .ok (.aload 7, 2) := by decide +kernel
theorem dX6_copy_80 : decode cX6_copy 80 = .ok (.iload 4, 2) := by decide +kernel
theorem dX6_copy_82 : decode cX6_copy 82 = .ok (.iload 5, 2) := by decide +kernel
theorem dX6_copy_84 : decode cX6_copy 84 = .ok (.invokevirtual 288, 3) := by decide +kernel
theorem dX6_copy_87 : decode cX6_copy 87 = .ok (.ifCond .ne 6, 3) := by decide +kernel
theorem dX6_copy_90 : decode cX6_copy 90 = .ok (.bipush (-13), 2) := by decide +kernel
theorem dX6_copy_92 : decode cX6_copy 92 = .ok (.ireturn, 1) := by decide +kernel
theorem dX6_copy_93 : decode cX6_copy 93 = .ok (.aload 6, 2) := by decide +kernel
theorem dX6_copy_95 : decode cX6_copy 95 = .ok (.getfield 291, 3) := by decide +kernel
theorem dX6_copy_98 : decode cX6_copy 98 = .ok (.iload_n 2, 1) := by decide +kernel
theorem dX6_copy_99 : decode cX6_copy 99 = .ok (.aload 7, 2) := by decide +kernel
theorem dX6_copy_101 : decode cX6_copy 101 = .ok (.getfield 291, 3) := by decide +kernel
theorem dX6_copy_104 : decode cX6_copy 104 = .ok (.iload 4, 2) := by decide +kernel
theorem dX6_copy_106 : decode cX6_copy 106 = .ok (.iload 5, 2) := by decide +kernel
theorem dX6_copy_108 : decode cX6_copy 108 = .ok (.invokestatic 295, 3) := by decide +kernel
theorem dX6_copy_111 : decode cX6_copy 111 = .ok (.iload 5, 2) := by decide +kernel
theorem dX6_copy_113 : decode cX6_copy 113 = .ok (.ireturn, 1) := by decide +kernel
def sm_X6_copy_0  (Q : aw_R) (p0 : Nat) (x1 : Int32) (x2 : Int32) (x3 : Int32) (x4 : Int32) (x5 : Int32) (h : aw_H) : Prop :=
  tr_X6_isSheet [.int x1] h fun r2 h1 => sr_I r2 fun v3 => if v3 = 0 then (Q (some (.int ((-1)))) h1) else (tr_X6_isSheet [.int x3] h1 fun r5 h4 => sr_I r5 fun v6 => if ¬ v6 = 0 then (sg_R h4 p0 5 8 fun q7 => sa_R h4 4 q7 x1 fun q8 => sg_R h4 p0 5 8 fun q9 => sa_R h4 4 q9 x3 fun q10 => sg_I h4 q8 3 0 fun v11 => if v11 = 0 then (Q (some (.int ((-11)))) h4) else (sg_I h4 q10 3 0 fun v12 => if ¬ v12 = 0 then (sg_I h4 q8 3 1 fun v13 => sg_I h4 q10 3 1 fun v14 => if v13 = v14 then (sv_O h4 q8 3 (tr_X4_spans [.ref q8, .int x2, .int x5] h4 fun r16 h15 => sr_I r16 fun v17 => if v17 = 0 then (Q (some (.int ((-13)))) h15) else (sv_O h15 q10 3 (tr_X4_spans [.ref q10, .int x4, .int x5] h15 fun r19 h18 => sr_I r19 fun v20 => if ¬ v20 = 0 then (sg_R h18 q8 3 3 fun q21 => sg_R h18 q10 3 3 fun q22 => sc_L h18 q21 x2 q22 x4 x5 fun h23 => Q (some (.int x5)) h23) else (Q (some (.int ((-13)))) h18))))) else (Q (some (.int ((-12)))) h4)) else (Q (some (.int ((-11)))) h4))) else (Q (some (.int ((-1)))) h4))
set_option maxRecDepth 100000 in
set_option maxHeartbeats 4000000 in
theorem bl_X6_copy_0 {X : aw_X} {Q : aw_R} (C : aw_C X cX6_copy RX6 8 1) (Z : aw_Z X cX6_copy (some .int) Q) (p0 : Nat) (x1 : Int32) (x2 : Int32) (x3 : Int32) (x4 : Int32) (x5 : Int32) (h : aw_H) (hh : sm_X6_copy_0  Q p0 x1 x2 x3 x4 x5 h) : Sat X 0 [.ref p0, .int x1, .int x2, .int x3, .int x4, .int x5, Value.null, Value.null] [] h := by
  unfold sm_X6_copy_0 at hh
  refine ow_iload_n C dX6_copy_0 rfl rfl ?_
  refine ow_callS C (cs_X6_isSheet _) (Nat.le_of_ble_eq_true rfl) kw_490 dX6_copy_1 (as := [.int x1]) (st := []) rfl rfl (Nat.le_of_ble_eq_true rfl) hh (fun r2 h1 hq => ?_)
  obtain ⟨v3, rfl, hh⟩ := sr_I_e hq
  show Sat X 4 [.ref p0, .int x1, .int x2, .int x3, .int x4, .int x5, Value.null, Value.null] [.int v3] h1
  refine ow_if_eq (tgt := 14) C dX6_copy_4 (by decide) hh (fun hh => ?_) (fun hh => ?_)
  · skip
    refine ow_iconst (v := (-1)) C dX6_copy_14 rfl ?_
    exact ow_iret Z dX6_copy_15 trivial hh
  · skip
    refine ow_iload_n C dX6_copy_7 rfl rfl ?_
    refine ow_callS C (cs_X6_isSheet _) (Nat.le_of_ble_eq_true rfl) kw_490 dX6_copy_8 (as := [.int x3]) (st := []) rfl rfl (Nat.le_of_ble_eq_true rfl) hh (fun r5 h4 hq => ?_)
    obtain ⟨v6, rfl, hh⟩ := sr_I_e hq
    show Sat X 11 [.ref p0, .int x1, .int x2, .int x3, .int x4, .int x5, Value.null, Value.null] [.int v6] h4
    refine ow_if_ne (tgt := 16) C dX6_copy_11 (by decide) hh (fun hh => ?_) (fun hh => ?_)
    · skip
      refine ow_aload_n C dX6_copy_16 rfl rfl ?_
      refine ow_getR (ci := 5) (k := 8) (T := TX6) C rfl igX6 (by decide) kw_495 dX6_copy_17 hh (fun q7 hh => ?_)
      refine ow_iload_n C dX6_copy_20 rfl rfl ?_
      refine ow_aaload (t0 := 4) C dX6_copy_21 (fun _ => rfl) hh (fun q8 hh => ?_)
      refine ow_astore (L' := [.ref p0, .int x1, .int x2, .int x3, .int x4, .int x5, .ref q8, Value.null]) C dX6_copy_22 (by decide) rfl ?_
      refine ow_aload_n C dX6_copy_24 rfl rfl ?_
      refine ow_getR (ci := 5) (k := 8) (T := TX6) C rfl igX6 (by decide) kw_495 dX6_copy_25 hh (fun q9 hh => ?_)
      refine ow_iload_n C dX6_copy_28 rfl rfl ?_
      refine ow_aaload (t0 := 4) C dX6_copy_29 (fun _ => rfl) hh (fun q10 hh => ?_)
      refine ow_astore (L' := [.ref p0, .int x1, .int x2, .int x3, .int x4, .int x5, .ref q8, .ref q10]) C dX6_copy_30 (by decide) rfl ?_
      refine ow_aload C dX6_copy_32 rfl ?_
      refine ow_getI (ci := 3) (k := 0) (T := TX4) C rfl igX4 (by decide) kw_511 dX6_copy_34 hh (fun v11 hh => ?_)
      refine ow_if_eq (tgt := 48) C dX6_copy_37 (by decide) hh (fun hh => ?_) (fun hh => ?_)
      · skip
        refine ow_bipush (v := (-11)) C dX6_copy_48 rfl ?_
        exact ow_iret Z dX6_copy_50 trivial hh
      · skip
        refine ow_aload C dX6_copy_40 rfl ?_
        refine ow_getI (ci := 3) (k := 0) (T := TX4) C rfl igX4 (by decide) kw_511 dX6_copy_42 hh (fun v12 hh => ?_)
        refine ow_if_ne (tgt := 51) C dX6_copy_45 (by decide) hh (fun hh => ?_) (fun hh => ?_)
        · skip
          refine ow_aload C dX6_copy_51 rfl ?_
          refine ow_getI (ci := 3) (k := 1) (T := TX4) C rfl igX4 (by decide) kw_519 dX6_copy_53 hh (fun v13 hh => ?_)
          refine ow_aload C dX6_copy_56 rfl ?_
          refine ow_getI (ci := 3) (k := 1) (T := TX4) C rfl igX4 (by decide) kw_519 dX6_copy_58 hh (fun v14 hh => ?_)
          refine ow_icmp_eq (tgt := 67) C dX6_copy_61 (by decide) hh (fun hh => ?_) (fun hh => ?_)
          · skip
            refine ow_aload C dX6_copy_67 rfl ?_
            refine ow_iload_n C dX6_copy_69 rfl rfl ?_
            refine ow_iload C dX6_copy_70 rfl ?_
            refine ow_callV C (cv_X4_spans _) (Nat.le_of_ble_eq_true rfl) kw_520 dX6_copy_72 (as := [.int x2, .int x5]) (st := []) rfl rfl (Nat.le_of_ble_eq_true rfl) hh (fun r16 h15 hq => ?_)
            obtain ⟨v17, rfl, hh⟩ := sr_I_e hq
            show Sat X 75 [.ref p0, .int x1, .int x2, .int x3, .int x4, .int x5, .ref q8, .ref q10] [.int v17] h15
            refine ow_if_eq (tgt := 90) C dX6_copy_75 (by decide) hh (fun hh => ?_) (fun hh => ?_)
            · skip
              refine ow_bipush (v := (-13)) C dX6_copy_90 rfl ?_
              exact ow_iret Z dX6_copy_92 trivial hh
            · skip
              refine ow_aload C dX6_copy_78 rfl ?_
              refine ow_iload C dX6_copy_80 rfl ?_
              refine ow_iload C dX6_copy_82 rfl ?_
              refine ow_callV C (cv_X4_spans _) (Nat.le_of_ble_eq_true rfl) kw_520 dX6_copy_84 (as := [.int x4, .int x5]) (st := []) rfl rfl (Nat.le_of_ble_eq_true rfl) hh (fun r19 h18 hq => ?_)
              obtain ⟨v20, rfl, hh⟩ := sr_I_e hq
              show Sat X 87 [.ref p0, .int x1, .int x2, .int x3, .int x4, .int x5, .ref q8, .ref q10] [.int v20] h18
              refine ow_if_ne (tgt := 93) C dX6_copy_87 (by decide) hh (fun hh => ?_) (fun hh => ?_)
              · skip
                refine ow_aload C dX6_copy_93 rfl ?_
                refine ow_getR (ci := 3) (k := 3) (T := TX4) C rfl igX4 (by decide) kw_521 dX6_copy_95 hh (fun q21 hh => ?_)
                refine ow_iload_n C dX6_copy_98 rfl rfl ?_
                refine ow_aload C dX6_copy_99 rfl ?_
                refine ow_getR (ci := 3) (k := 3) (T := TX4) C rfl igX4 (by decide) kw_521 dX6_copy_101 hh (fun q22 hh => ?_)
                refine ow_iload C dX6_copy_104 rfl ?_
                refine ow_iload C dX6_copy_106 rfl ?_
                refine ow_copyL C (Nat.le_of_ble_eq_true rfl) kw_522 kw_60 kw_61 kw_62 dX6_copy_108 hh (Nat.le_of_ble_eq_true rfl) (fun h23 hh => ?_)
                refine ow_iload C dX6_copy_111 rfl ?_
                exact ow_iret Z dX6_copy_113 trivial hh
              · skip
                refine ow_bipush (v := (-13)) C dX6_copy_90 rfl ?_
                exact ow_iret Z dX6_copy_92 trivial hh
          · skip
            refine ow_bipush (v := (-12)) C dX6_copy_64 rfl ?_
            exact ow_iret Z dX6_copy_66 trivial hh
        · skip
          refine ow_bipush (v := (-11)) C dX6_copy_48 rfl ?_
          exact ow_iret Z dX6_copy_50 trivial hh
    · skip
      refine ow_iconst (v := (-1)) C dX6_copy_14 rfl ?_
      exact ow_iret Z dX6_copy_15 trivial hh
def tr_X6_copy : aw_T := fun as h Q => ∃ (p0 : Nat) (x1 : Int32) (x2 : Int32) (x3 : Int32) (x4 : Int32) (x5 : Int32), as = [.ref p0, .int x1, .int x2, .int x3, .int x4, .int x5] ∧ (sm_X6_copy_0  Q p0 x1 x2 x3 x4 x5 h)
theorem tq_X6_copy {p0 : Nat} {x1 : Int32} {x2 : Int32} {x3 : Int32} {x4 : Int32} {x5 : Int32} {h : aw_H} {Q : aw_R} : tr_X6_copy [.ref p0, .int x1, .int x2, .int x3, .int x4, .int x5] h Q ↔ (sm_X6_copy_0  Q p0 x1 x2 x3 x4 x5 h) := by
  constructor
  · rintro ⟨_, _, _, _, _, _, as0, hh⟩
    cases as0
    exact hh
  · intro hh
    exact ⟨_, _, _, _, _, _, rfl, hh⟩
theorem ct_X6_copy (E : aw_F) : CT E yX6_copy cX6_copy 8 (some .int) 1 tr_X6_copy := by
  refine ct_of (by decide) ?_
  intro X Q as h hE C Z hG
  subst hE
  obtain ⟨p0, x1, x2, x3, x4, x5, rfl, hh⟩ := hG
  refine ⟨[.ref p0, .int x1, .int x2, .int x3, .int x4, .int x5, Value.null, Value.null], rfl, Nat.le_of_ble_eq_true rfl, ?_⟩
  exact bl_X6_copy_0 C Z p0 x1 x2 x3 x4 x5 h hh
theorem cv_X6_copy (E : aw_F) : CV E yX6_copy cX6_copy 8 (some .int) 1 5 5 tr_X6_copy := ⟨ct_X6_copy E, by decide, kw_524, kw_525, kw_314, kw_523, by decide +kernel, _, _, rfl⟩
