theorem dX7_fault_0 : decode cX7_fault 0 = .ok (.aload_n 0, 1) := by decide +kernel
theorem dX7_fault_1 : decode cX7_fault 1 = .ok (.invokevirtual 96, 3) := by decide +kernel
theorem dX7_fault_4 : decode cX7_fault 4 = .ok (.ifCond .eq 8, 3) := by decide +kernel
theorem dX7_fault_7 : decode cX7_fault 7 = .ok (.aload_n 0, 1) := by decide +kernel
theorem dX7_fault_8 : decode cX7_fault 8 = .ok (.iload_n 1, 1) := by decide +kernel
theorem dX7_fault_9 : decode cX7_fault 9 = .ok (.putfield 93, 3) := by decide +kernel
theorem dX7_fault_12 : decode cX7_fault 12 = .ok (.return_, 1) := by decide +kernel
def sm_X7_fault_0  (Q : aw_R) (p0 : Nat) (x1 : Int32) (h : aw_H) : Prop :=
  sv_O h p0 6 (tr_X7_fine [.ref p0] h fun r2 h1 => sr_I r2 fun v3 => if v3 = 0 then (Q none h1) else (sp_I h1 p0 6 9 x1 fun h4 => Q none h4))
set_option maxRecDepth 100000 in
set_option maxHeartbeats 4000000 in
theorem bl_X7_fault_0 {X : aw_X} {Q : aw_R} (C : aw_C X cX7_fault RX7 2 1) (Z : aw_Z X cX7_fault none Q) (p0 : Nat) (x1 : Int32) (h : aw_H) (hh : sm_X7_fault_0  Q p0 x1 h) : Sat X 0 [.ref p0, .int x1] [] h := by
  unfold sm_X7_fault_0 at hh
  refine ow_aload_n C dX7_fault_0 rfl rfl ?_
  refine ow_callV C (cv_X7_fine _) (Nat.le_of_ble_eq_true rfl) kw_604 dX7_fault_1 (as := []) (st := []) rfl rfl (Nat.le_of_ble_eq_true rfl) hh (fun r2 h1 hq => ?_)
  obtain ⟨v3, rfl, hh⟩ := sr_I_e hq
  show Sat X 4 [.ref p0, .int x1] [.int v3] h1
  refine ow_if_eq (tgt := 12) C dX7_fault_4 (by decide) hh (fun hh => ?_) (fun hh => ?_)
  · skip
    exact ow_vret Z dX7_fault_12 trivial hh
  · skip
    refine ow_aload_n C dX7_fault_7 rfl rfl ?_
    refine ow_iload_n C dX7_fault_8 rfl rfl ?_
    refine ow_putI (ci := 6) (k := 9) (T := TX7) C rfl igX7 tyX7 tyX7_ok nmX7 (by decide) kw_600 rfl (by decide +kernel) dX7_fault_9 hh (fun h4 hh => ?_)
    exact ow_vret Z dX7_fault_12 trivial hh
def tr_X7_fault : aw_T := fun as h Q => ∃ (p0 : Nat) (x1 : Int32), as = [.ref p0, .int x1] ∧ (sm_X7_fault_0  Q p0 x1 h)
theorem tq_X7_fault {p0 : Nat} {x1 : Int32} {h : aw_H} {Q : aw_R} : tr_X7_fault [.ref p0, .int x1] h Q ↔ (sm_X7_fault_0  Q p0 x1 h) := by
  constructor
  · rintro ⟨_, _, as0, hh⟩
    cases as0
    exact hh
  · intro hh
    exact ⟨_, _, rfl, hh⟩
theorem ct_X7_fault (E : aw_F) : CT E yX7_fault cX7_fault 2 none 1 tr_X7_fault := by
  refine ct_of (by decide) ?_
  intro X Q as h hE C Z hG
  subst hE
  obtain ⟨p0, x1, rfl, hh⟩ := hG
  refine ⟨[.ref p0, .int x1], rfl, Nat.le_of_ble_eq_true rfl, ?_⟩
  exact bl_X7_fault_0 C Z p0 x1 h hh
theorem cv_X7_fault (E : aw_F) : CV E yX7_fault cX7_fault 2 none 1 1 6 tr_X7_fault := ⟨ct_X7_fault E, by decide, kw_606, kw_607, kw_527, kw_605, by decide +kernel, _, _, rfl⟩
theorem dX7_need_0 : decode cX7_need 0 = .ok (.aload_n 0, 1) := by decide +kernel
theorem dX7_need_1 : decode cX7_need 1 = .ok (.invokevirtual 100, 3) := by decide +kernel
theorem dX7_need_4 : decode cX7_need 4 = .ok (.iload_n 1, 1) := by decide +kernel
theorem dX7_need_5 : decode cX7_need 5 = .ok (.if_icmp .eq 11, 3) := by decide +kernel
theorem dX7_need_8 : decode cX7_need 8 = .ok (.aload_n 0, 1) := by decide +kernel
theorem dX7_need_9 : decode cX7_need 9 = .ok (.aload_n 0, 1) := by decide +kernel
theorem dX7_need_10 : decode cX7_need 10 = .ok (.getfield 90, 3) := by decide +kernel
theorem dX7_need_13 : decode cX7_need 13 = .ok (.invokevirtual 103, 3) := by decide +kernel
theorem dX7_need_16 : decode cX7_need 16 = .ok (.aload_n 0, 1) := by decide +kernel
theorem dX7_need_17 : decode cX7_need 17 = .ok (.dup, 1) := by decide +kernel
theorem dX7_need_18 : decode cX7_need 18 = .ok (.getfield 90, 3) := by decide +kernel
theorem dX7_need_21 : decode cX7_need 21 = .ok (.iconst 1, 1) := by decide +kernel
theorem dX7_need_22 : decode cX7_need 22 = .ok (.iadd, 1) := by decide +kernel
theorem dX7_need_23 : decode cX7_need 23 = .ok (.putfield 90, 3) := by decide +kernel
theorem dX7_need_26 : decode cX7_need 26 = .ok (.return_, 1) := by decide +kernel
def sm_X7_need_0  (Q : aw_R) (p0 : Nat) (x1 : Int32) (h : aw_H) : Prop :=
  sv_O h p0 6 (tr_X7_here [.ref p0] h fun r2 h1 => sr_I r2 fun v3 => if v3 = x1 then (sg_I h1 p0 6 8 fun v4 => sp_I h1 p0 6 8 (v4 + 1) fun h5 => Q none h5) else (sg_I h1 p0 6 8 fun v6 => sv_O h1 p0 6 (tr_X7_fault [.ref p0, .int v6] h1 fun r8 h7 => sr_V r8 <| sg_I h7 p0 6 8 fun v9 => sp_I h7 p0 6 8 (v9 + 1) fun h10 => Q none h10)))
set_option maxRecDepth 100000 in
set_option maxHeartbeats 4000000 in
theorem bl_X7_need_0 {X : aw_X} {Q : aw_R} (C : aw_C X cX7_need RX7 2 2) (Z : aw_Z X cX7_need none Q) (p0 : Nat) (x1 : Int32) (h : aw_H) (hh : sm_X7_need_0  Q p0 x1 h) : Sat X 0 [.ref p0, .int x1] [] h := by
  unfold sm_X7_need_0 at hh
  refine ow_aload_n C dX7_need_0 rfl rfl ?_
  refine ow_callV C (cv_X7_here _) (Nat.le_of_ble_eq_true rfl) kw_608 dX7_need_1 (as := []) (st := []) rfl rfl (Nat.le_of_ble_eq_true rfl) hh (fun r2 h1 hq => ?_)
  obtain ⟨v3, rfl, hh⟩ := sr_I_e hq
  show Sat X 4 [.ref p0, .int x1] [.int v3] h1
  refine ow_iload_n C dX7_need_4 rfl rfl ?_
  refine ow_icmp_eq (tgt := 16) C dX7_need_5 (by decide) hh (fun hh => ?_) (fun hh => ?_)
  · skip
    refine ow_aload_n C dX7_need_16 rfl rfl ?_
    refine ow_dup C dX7_need_17 rfl ?_
    refine ow_getI (ci := 6) (k := 8) (T := TX7) C rfl igX7 (by decide) kw_596 dX7_need_18 hh (fun v4 hh => ?_)
    refine ow_iconst (v := 1) C dX7_need_21 rfl ?_
    refine ow_iadd C dX7_need_22 ?_
    refine ow_putI (ci := 6) (k := 8) (T := TX7) C rfl igX7 tyX7 tyX7_ok nmX7 (by decide) kw_596 rfl (by decide +kernel) dX7_need_23 hh (fun h5 hh => ?_)
    exact ow_vret Z dX7_need_26 trivial hh
  · skip
    refine ow_aload_n C dX7_need_8 rfl rfl ?_
    refine ow_aload_n C dX7_need_9 rfl rfl ?_
    refine ow_getI (ci := 6) (k := 8) (T := TX7) C rfl igX7 (by decide) kw_596 dX7_need_10 hh (fun v6 hh => ?_)
    refine ow_callV C (cv_X7_fault _) (Nat.le_of_ble_eq_true rfl) kw_609 dX7_need_13 (as := [.int v6]) (st := []) rfl rfl (Nat.le_of_ble_eq_true rfl) hh (fun r8 h7 hq => ?_)
    obtain ⟨rfl, hh⟩ := sr_V_e hq
    show Sat X 16 [.ref p0, .int x1] [] h7
    refine ow_aload_n C dX7_need_16 rfl rfl ?_
    refine ow_dup C dX7_need_17 rfl ?_
    refine ow_getI (ci := 6) (k := 8) (T := TX7) C rfl igX7 (by decide) kw_596 dX7_need_18 hh (fun v9 hh => ?_)
    refine ow_iconst (v := 1) C dX7_need_21 rfl ?_
    refine ow_iadd C dX7_need_22 ?_
    refine ow_putI (ci := 6) (k := 8) (T := TX7) C rfl igX7 tyX7 tyX7_ok nmX7 (by decide) kw_596 rfl (by decide +kernel) dX7_need_23 hh (fun h10 hh => ?_)
    exact ow_vret Z dX7_need_26 trivial hh
def tr_X7_need : aw_T := fun as h Q => ∃ (p0 : Nat) (x1 : Int32), as = [.ref p0, .int x1] ∧ (sm_X7_need_0  Q p0 x1 h)
theorem tq_X7_need {p0 : Nat} {x1 : Int32} {h : aw_H} {Q : aw_R} : tr_X7_need [.ref p0, .int x1] h Q ↔ (sm_X7_need_0  Q p0 x1 h) := by
  constructor
  · rintro ⟨_, _, as0, hh⟩
    cases as0
    exact hh
  · intro hh
    exact ⟨_, _, rfl, hh⟩
theorem ct_X7_need (E : aw_F) : CT E yX7_need cX7_need 2 none 2 tr_X7_need := by
  refine ct_of (by decide) ?_
  intro X Q as h hE C Z hG
  subst hE
  obtain ⟨p0, x1, rfl, hh⟩ := hG
  refine ⟨[.ref p0, .int x1], rfl, Nat.le_of_ble_eq_true rfl, ?_⟩
  exact bl_X7_need_0 C Z p0 x1 h hh
theorem cv_X7_need (E : aw_F) : CV E yX7_need cX7_need 2 none 2 1 6 tr_X7_need := ⟨ct_X7_need E, by decide, kw_611, kw_612, kw_527, kw_610, by decide +kernel, _, _, rfl⟩
theorem dX7_digit_0 : decode cX7_digit 0 = .ok (.aload_n 0, 1) := by decide +kernel
theorem dX7_digit_1 : decode cX7_digit 1 = .ok (.invokevirtual 100, 3) := by decide +kernel
theorem dX7_digit_4 : decode cX7_digit 4 = .ok (.bipush 48, 2) := by decide +kernel
theorem dX7_digit_6 : decode cX7_digit 6 = .ok (.isub, 1) := by decide +kernel
theorem dX7_digit_7 : decode cX7_digit 7 = .ok (.istore_n 3, 1) := by decide +kernel
theorem dX7_digit_8 : decode cX7_digit 8 = .ok (.iload_n 3, 1) := by decide +kernel
theorem dX7_digit_9 : decode cX7_digit 9 = .ok (.iload_n 1, 1) := by decide +kernel
theorem dX7_digit_10 : decode cX7_digit 10 = .ok (.iload_n 2, 1) := by decide +kernel
theorem dX7_digit_11 : decode cX7_digit 11 = .ok (.invokestatic 42, 3) := by decide +kernel
theorem dX7_digit_14 : decode cX7_digit 14 = .ok (.ifCond .ne 11, 3) := by decide +kernel
theorem dX7_digit_17 : decode cX7_digit 17 = .ok (.aload_n 0, 1) := by decide +kernel
theorem dX7_digit_18 : decode cX7_digit 18 = .ok (.aload_n 0, 1) := by decide +kernel
theorem dX7_digit_19 : decode cX7_digit 19 = .ok (.getfield 90, 3) := by decide +kernel
theorem dX7_digit_22 : decode cX7_digit 22 = .ok (.invokevirtual 103, 3) := by decide +kernel
theorem dX7_digit_25 : decode cX7_digit 25 = .ok (.aload_n 0, 1) := by decide +kernel
theorem dX7_digit_26 : decode cX7_digit 26 = .ok (.dup, 1) := by decide +kernel
theorem dX7_digit_27 : decode cX7_digit 27 = .ok (.getfield 90, 3) := by decide +kernel
theorem dX7_digit_30 : decode cX7_digit 30 = .ok (.iconst 1, 1) := by decide +kernel
theorem dX7_digit_31 : decode cX7_digit 31 = .ok (.iadd, 1) := by decide +kernel
theorem dX7_digit_32 : decode cX7_digit 32 = .ok (.putfield 90, 3) := by decide +kernel
theorem dX7_digit_35 : decode cX7_digit 35 = .ok (.iload_n 3, 1) := by decide +kernel
theorem dX7_digit_36 : decode cX7_digit 36 = .ok (.ireturn, 1) := by decide +kernel
def sm_X7_digit_0  (Q : aw_R) (p0 : Nat) (x1 : Int32) (x2 : Int32) (h : aw_H) : Prop :=
  sv_O h p0 6 (tr_X7_here [.ref p0] h fun r2 h1 => sr_I r2 fun v3 => tr_X7_in [.int (v3 - 48), .int x1, .int x2] h1 fun r5 h4 => sr_I r5 fun v6 => if ¬ v6 = 0 then (sg_I h4 p0 6 8 fun v7 => sp_I h4 p0 6 8 (v7 + 1) fun h8 => Q (some (.int (v3 - 48))) h8) else (sg_I h4 p0 6 8 fun v9 => sv_O h4 p0 6 (tr_X7_fault [.ref p0, .int v9] h4 fun r11 h10 => sr_V r11 <| sg_I h10 p0 6 8 fun v12 => sp_I h10 p0 6 8 (v12 + 1) fun h13 => Q (some (.int (v3 - 48))) h13)))
set_option maxRecDepth 100000 in
set_option maxHeartbeats 4000000 in
theorem bl_X7_digit_0 {X : aw_X} {Q : aw_R} (C : aw_C X cX7_digit RX7 4 2) (Z : aw_Z X cX7_digit (some .int) Q) (p0 : Nat) (x1 : Int32) (x2 : Int32) (h : aw_H) (hh : sm_X7_digit_0  Q p0 x1 x2 h) : Sat X 0 [.ref p0, .int x1, .int x2, Value.null] [] h := by
  unfold sm_X7_digit_0 at hh
  refine ow_aload_n C dX7_digit_0 rfl rfl ?_
  refine ow_callV C (cv_X7_here _) (Nat.le_of_ble_eq_true rfl) kw_608 dX7_digit_1 (as := []) (st := []) rfl rfl (Nat.le_of_ble_eq_true rfl) hh (fun r2 h1 hq => ?_)
  obtain ⟨v3, rfl, hh⟩ := sr_I_e hq
  show Sat X 4 [.ref p0, .int x1, .int x2, Value.null] [.int v3] h1
  refine ow_bipush (v := 48) C dX7_digit_4 rfl ?_
  refine ow_isub C dX7_digit_6 ?_
  refine ow_istore_n (L' := [.ref p0, .int x1, .int x2, .int (v3 - 48)]) C dX7_digit_7 rfl (by decide) rfl ?_
  refine ow_iload_n C dX7_digit_8 rfl rfl ?_
  refine ow_iload_n C dX7_digit_9 rfl rfl ?_
  refine ow_iload_n C dX7_digit_10 rfl rfl ?_
  refine ow_callS C (cs_X7_in _) (Nat.le_of_ble_eq_true rfl) kw_541 dX7_digit_11 (as := [.int (v3 - 48), .int x1, .int x2]) (st := []) rfl rfl (Nat.le_of_ble_eq_true rfl) hh (fun r5 h4 hq => ?_)
  obtain ⟨v6, rfl, hh⟩ := sr_I_e hq
  show Sat X 14 [.ref p0, .int x1, .int x2, .int (v3 - 48)] [.int v6] h4
  refine ow_if_ne (tgt := 25) C dX7_digit_14 (by decide) hh (fun hh => ?_) (fun hh => ?_)
  · skip
    refine ow_aload_n C dX7_digit_25 rfl rfl ?_
    refine ow_dup C dX7_digit_26 rfl ?_
    refine ow_getI (ci := 6) (k := 8) (T := TX7) C rfl igX7 (by decide) kw_596 dX7_digit_27 hh (fun v7 hh => ?_)
    refine ow_iconst (v := 1) C dX7_digit_30 rfl ?_
    refine ow_iadd C dX7_digit_31 ?_
    refine ow_putI (ci := 6) (k := 8) (T := TX7) C rfl igX7 tyX7 tyX7_ok nmX7 (by decide) kw_596 rfl (by decide +kernel) dX7_digit_32 hh (fun h8 hh => ?_)
    refine ow_iload_n C dX7_digit_35 rfl rfl ?_
    exact ow_iret Z dX7_digit_36 trivial hh
  · skip
    refine ow_aload_n C dX7_digit_17 rfl rfl ?_
    refine ow_aload_n C dX7_digit_18 rfl rfl ?_
    refine ow_getI (ci := 6) (k := 8) (T := TX7) C rfl igX7 (by decide) kw_596 dX7_digit_19 hh (fun v9 hh => ?_)
    refine ow_callV C (cv_X7_fault _) (Nat.le_of_ble_eq_true rfl) kw_609 dX7_digit_22 (as := [.int v9]) (st := []) rfl rfl (Nat.le_of_ble_eq_true rfl) hh (fun r11 h10 hq => ?_)
    obtain ⟨rfl, hh⟩ := sr_V_e hq
    show Sat X 25 [.ref p0, .int x1, .int x2, .int (v3 - 48)] [] h10
    refine ow_aload_n C dX7_digit_25 rfl rfl ?_
    refine ow_dup C dX7_digit_26 rfl ?_
    refine ow_getI (ci := 6) (k := 8) (T := TX7) C rfl igX7 (by decide) kw_596 dX7_digit_27 hh (fun v12 hh => ?_)
    refine ow_iconst (v := 1) C dX7_digit_30 rfl ?_
    refine ow_iadd C dX7_digit_31 ?_
    refine ow_putI (ci := 6) (k := 8) (T := TX7) C rfl igX7 tyX7 tyX7_ok nmX7 (by decide) kw_596 rfl (by decide +kernel) dX7_digit_32 hh (fun h13 hh => ?_)
    refine ow_iload_n C dX7_digit_35 rfl rfl ?_
    exact ow_iret Z dX7_digit_36 trivial hh
def tr_X7_digit : aw_T := fun as h Q => ∃ (p0 : Nat) (x1 : Int32) (x2 : Int32), as = [.ref p0, .int x1, .int x2] ∧ (sm_X7_digit_0  Q p0 x1 x2 h)
theorem tq_X7_digit {p0 : Nat} {x1 : Int32} {x2 : Int32} {h : aw_H} {Q : aw_R} : tr_X7_digit [.ref p0, .int x1, .int x2] h Q ↔ (sm_X7_digit_0  Q p0 x1 x2 h) := by
  constructor
  · rintro ⟨_, _, _, as0, hh⟩
    cases as0
    exact hh
  · intro hh
    exact ⟨_, _, _, rfl, hh⟩
theorem ct_X7_digit (E : aw_F) : CT E yX7_digit cX7_digit 4 (some .int) 2 tr_X7_digit := by
  refine ct_of (by decide) ?_
  intro X Q as h hE C Z hG
  subst hE
  obtain ⟨p0, x1, x2, rfl, hh⟩ := hG
  refine ⟨[.ref p0, .int x1, .int x2, Value.null], rfl, Nat.le_of_ble_eq_true rfl, ?_⟩
  exact bl_X7_digit_0 C Z p0 x1 x2 h hh
theorem cv_X7_digit (E : aw_F) : CV E yX7_digit cX7_digit 4 (some .int) 2 2 6 tr_X7_digit := ⟨ct_X7_digit E, by decide, kw_614, kw_615, kw_527, kw_613, by decide +kernel, _, _, rfl⟩
theorem dX7_readState_0 : decode cX7_readState 0 = .ok (.aload_n 0, 1) := by decide +kernel
theorem dX7_readState_1 : decode cX7_readState 1 = .ok (.invokevirtual 100, 3) := by decide +kernel
theorem dX7_readState_4 : decode cX7_readState 4 = .ok (.bipush 48, 2) := by decide +kernel
theorem dX7_readState_6 : decode cX7_readState 6 = .ok (.isub, 1) := by decide +kernel
theorem dX7_readState_7 : decode cX7_readState 7 = .ok (.istore_n 2, 1) := by decide +kernel
theorem dX7_readState_8 : decode cX7_readState 8 = .ok (.aload_n 0, 1) := by decide +kernel
theorem dX7_readState_9 : decode cX7_readState 9 = .ok (.getfield 90, 3) := by decide +kernel
theorem dX7_readState_12 : decode cX7_readState 12 = .ok (.istore_n 3, 1) := by decide +kernel
theorem dX7_readState_13 : decode cX7_readState 13 = .ok (.iload_n 2, 1) := by decide +kernel
theorem dX7_readState_14 : decode cX7_readState 14 = .ok (.iconst 0, 1) := by decide +kernel
theorem dX7_readState_15 : decode cX7_readState 15 = .ok (.bipush 9, 2) := by decide +kernel
theorem dX7_readState_17 : decode cX7_readState 17 = .ok (.invokestatic 42, 3) := by decide +kernel
theorem dX7_readState_20 : decode cX7_readState 20 = .ok (.ifCond .ne 12, 3) := by decide +kernel
theorem dX7_readState_23 : decode cX7_readState 23 = .ok (.aload_n 0, 1) := by decide +kernel
theorem dX7_readState_24 : decode cX7_readState 24 = .ok (.aload_n 0, 1) := by decide +kernel
theorem dX7_readState_25 : decode cX7_readState 25 = .ok (.getfield 90, 3) := by decide +kernel
theorem dX7_readState_28 : decode cX7_readState 28 = .ok (.invokevirtual 103, 3) := by decide +kernel
theorem dX7_readState_31 : decode cX7_readState 31 = .ok (.return_, 1) := by decide +kernel
theorem dX7_readState_32 : decode cX7_readState 32 = .ok (.aload_n 0, 1) := by decide +kernel
theorem dX7_readState_33 : decode cX7_readState 33 = .ok (.dup, 1) := by decide +kernel
theorem dX7_readState_34 : decode cX7_readState 34 = .ok (.getfield 90, 3) := by decide +kernel
theorem dX7_readState_37 : decode cX7_readState 37 = .ok (.iconst 1, 1) := by decide +kernel
theorem dX7_readState_38 : decode cX7_readState 38 = .ok (.iadd, 1) := by decide +kernel
theorem dX7_readState_39 : decode cX7_readState 39 = .ok (.putfield 90, 3) := by decide +kernel
theorem dX7_readState_42 : decode cX7_readState 42 = .ok (.aload_n 0, 1) := by decide +kernel
theorem dX7_readState_43 : decode cX7_readState 43 = .ok (.getfield 90, 3) := by decide +kernel
theorem dX7_readState_46 : decode cX7_readState 46 = .ok (.aload_n 0, 1) := by decide +kernel
theorem dX7_readState_47 : decode cX7_readState 47 = .ok (.getfield 86, 3) := by decide +kernel
theorem dX7_readState_50 : decode cX7_readState 50 = .ok (.if_icmp .ge 50, 3) := by decide +kernel
theorem dX7_readState_53 : decode cX7_readState 53 = .ok (.aload_n 0, 1) := by decide +kernel
theorem dX7_readState_54 : decode cX7_readState 54 = .ok (.getfield 13, 3) := by decide +kernel
theorem dX7_readState_57 : decode cX7_readState 57 = .ok (.aload_n 0, 1) := by decide +kernel
theorem dX7_readState_58 : decode cX7_readState 58 = .ok (.getfield 90, 3) := by decide +kernel
theorem dX7_readState_61 : decode cX7_readState 61 = .ok (.iaload, 1) := by decide +kernel
theorem dX7_readState_62 : decode cX7_readState 62 = .ok (.bipush 48, 2) := by decide +kernel
theorem dX7_readState_64 : decode cX7_readState 64 = .ok (.bipush 57, 2) := by decide +kernel
theorem dX7_readState_66 : decode cX7_readState 66 = .ok (.invokestatic 42, 3) := by decide +kernel
theorem dX7_readState_69 : decode cX7_readState 69 = .ok (.ifCond .eq 31, 3) := by decide +kernel
theorem dX7_readState_72 : decode cX7_readState 72 = .ok (.bipush 10, 2) := by decide +kernel
theorem dX7_readState_74 : decode cX7_readState 74 = .ok (.iload_n 2, 1) := by decide +kernel
theorem dX7_readState_75 : decode cX7_readState 75 = .ok (.imul, 1) := by decide +kernel
theorem dX7_readState_76 : decode cX7_readState 76 = .ok (.aload_n 0, 1) := by decide +kernel
theorem dX7_readState_77 : decode cX7_readState 77 = .ok (.getfield 13, 3) := by decide +kernel
theorem dX7_readState_80 : decode cX7_readState 80 = .ok (.aload_n 0, 1) := by decide +kernel
theorem dX7_readState_81 : decode cX7_readState 81 = .ok (.getfield 90, 3) := by decide +kernel
theorem dX7_readState_84 : decode cX7_readState 84 = .ok (.iaload, 1) := by decide +kernel
theorem dX7_readState_85 : decode cX7_readState 85 = .ok (.iadd, 1) := by decide +kernel
theorem dX7_readState_86 : decode cX7_readState 86 = .ok (.bipush 48, 2) := by decide +kernel
theorem dX7_readState_88 : decode cX7_readState 88 = .ok (.isub, 1) := by decide +kernel
theorem dX7_readState_89 : decode cX7_readState 89 = .ok (.istore_n 2, 1) := by decide +kernel
theorem dX7_readState_90 : decode cX7_readState 90 = .ok (.aload_n 0, 1) := by decide +kernel
theorem dX7_readState_91 : decode cX7_readState 91 = .ok (.dup, 1) := by decide +kernel
theorem dX7_readState_92 : decode cX7_readState 92 = .ok (.getfield 90, 3) := by decide +kernel
theorem dX7_readState_95 : decode cX7_readState 95 = .ok (.iconst 1, 1) := by decide +kernel
theorem dX7_readState_96 : decode cX7_readState 96 = .ok (.iadd, 1) := by decide +kernel
theorem dX7_readState_97 : decode cX7_readState 97 = .ok (.putfield 90, 3) := by decide +kernel
theorem dX7_readState_100 : decode cX7_readState 100 = .ok (.iload_n 2, 1) := by decide +kernel
theorem dX7_readState_101 : decode cX7_readState 101 = .ok (.iload_n 1, 1) := by decide +kernel
theorem dX7_readState_102 : decode cX7_readState 102 = .ok (.if_icmp .lt 8, 3) := by decide +kernel
theorem dX7_readState_105 : decode cX7_readState 105 = .ok (.aload_n 0, 1) := by decide +kernel
theorem dX7_readState_106 : decode cX7_readState 106 = .ok (.iload_n 3, 1) := by decide +kernel
theorem dX7_readState_107 : decode cX7_readState 107 = .ok (.invokevirtual 103, 3) := by decide +kernel
theorem dX7_readState_110 : decode cX7_readState 110 = .ok (.aload_n 0, 1) := by decide +kernel
theorem dX7_readState_111 : decode cX7_readState 111 = .ok (.iload_n 2, 1) := by decide +kernel
theorem dX7_readState_112 : decode cX7_readState 112 = .ok (.putfield 106, 3) := by decide +kernel
theorem dX7_readState_115 : decode cX7_readState 115 = .ok (.return_, 1) := by decide +kernel
def sm_X7_readState_100  (Q : aw_R) (p0 : Nat) (x1 : Int32) (x2 : Int32) (x3 : Int32) (h : aw_H) : Prop :=
  if x2 < x1 then (sp_I h p0 6 10 x2 fun h1 => Q none h1) else (sv_O h p0 6 (tr_X7_fault [.ref p0, .int x3] h fun r3 h2 => sr_V r3 <| sp_I h2 p0 6 10 x2 fun h4 => Q none h4))
set_option maxRecDepth 100000 in
set_option maxHeartbeats 4000000 in
theorem bl_X7_readState_100 {X : aw_X} {Q : aw_R} (C : aw_C X cX7_readState RX7 4 2) (Z : aw_Z X cX7_readState none Q) (p0 : Nat) (x1 : Int32) (x2 : Int32) (x3 : Int32) (h : aw_H) (hh : sm_X7_readState_100  Q p0 x1 x2 x3 h) : Sat X 100 [.ref p0, .int x1, .int x2, .int x3] [] h := by
  unfold sm_X7_readState_100 at hh
  refine ow_iload_n C dX7_readState_100 rfl rfl ?_
  refine ow_iload_n C dX7_readState_101 rfl rfl ?_
  refine ow_icmp_lt (tgt := 110) C dX7_readState_102 (by decide) hh (fun hh => ?_) (fun hh => ?_)
  · skip
    refine ow_aload_n C dX7_readState_110 rfl rfl ?_
    refine ow_iload_n C dX7_readState_111 rfl rfl ?_
    refine ow_putI (ci := 6) (k := 10) (T := TX7) C rfl igX7 tyX7 tyX7_ok nmX7 (by decide) kw_616 rfl (by decide +kernel) dX7_readState_112 hh (fun h1 hh => ?_)
    exact ow_vret Z dX7_readState_115 trivial hh
  · skip
    refine ow_aload_n C dX7_readState_105 rfl rfl ?_
    refine ow_iload_n C dX7_readState_106 rfl rfl ?_
    refine ow_callV C (cv_X7_fault _) (Nat.le_of_ble_eq_true rfl) kw_609 dX7_readState_107 (as := [.int x3]) (st := []) rfl rfl (Nat.le_of_ble_eq_true rfl) hh (fun r3 h2 hq => ?_)
    obtain ⟨rfl, hh⟩ := sr_V_e hq
    show Sat X 110 [.ref p0, .int x1, .int x2, .int x3] [] h2
    refine ow_aload_n C dX7_readState_110 rfl rfl ?_
    refine ow_iload_n C dX7_readState_111 rfl rfl ?_
    refine ow_putI (ci := 6) (k := 10) (T := TX7) C rfl igX7 tyX7 tyX7_ok nmX7 (by decide) kw_616 rfl (by decide +kernel) dX7_readState_112 hh (fun h4 hh => ?_)
    exact ow_vret Z dX7_readState_115 trivial hh
def sm_X7_readState_0  (Q : aw_R) (p0 : Nat) (x1 : Int32) (h : aw_H) : Prop :=
  sv_O h p0 6 (tr_X7_here [.ref p0] h fun r2 h1 => sr_I r2 fun v3 => sg_I h1 p0 6 8 fun v4 => tr_X7_in [.int (v3 - 48), .int 0, .int 9] h1 fun r6 h5 => sr_I r6 fun v7 => if ¬ v7 = 0 then (sg_I h5 p0 6 8 fun v8 => sp_I h5 p0 6 8 (v8 + 1) fun h9 => sg_I h9 p0 6 8 fun v10 => sg_I h9 p0 6 3 fun v11 => if v11 ≤ v10 then (sm_X7_readState_100  Q p0 x1 (v3 - 48) v4 h9) else (sg_R h9 p0 6 2 fun q12 => sg_I h9 p0 6 8 fun v13 => sa_I h9 q12 v13 fun v14 => tr_X7_in [.int v14, .int 48, .int 57] h9 fun r16 h15 => sr_I r16 fun v17 => if v17 = 0 then (sm_X7_readState_100  Q p0 x1 (v3 - 48) v4 h15) else (sg_R h15 p0 6 2 fun q18 => sg_I h15 p0 6 8 fun v19 => sa_I h15 q18 v19 fun v20 => sg_I h15 p0 6 8 fun v21 => sp_I h15 p0 6 8 (v21 + 1) fun h22 => sm_X7_readState_100  Q p0 x1 (((10 * (v3 - 48)) + v20) - 48) v4 h22))) else (sg_I h5 p0 6 8 fun v23 => sv_O h5 p0 6 (tr_X7_fault [.ref p0, .int v23] h5 fun r25 h24 => sr_V r25 <| Q none h24)))
set_option maxRecDepth 100000 in
set_option maxHeartbeats 4000000 in
theorem bl_X7_readState_0 {X : aw_X} {Q : aw_R} (C : aw_C X cX7_readState RX7 4 2) (Z : aw_Z X cX7_readState none Q) (p0 : Nat) (x1 : Int32) (h : aw_H) (hh : sm_X7_readState_0  Q p0 x1 h) : Sat X 0 [.ref p0, .int x1, Value.null, Value.null] [] h := by
  unfold sm_X7_readState_0 at hh
  refine ow_aload_n C dX7_readState_0 rfl rfl ?_
  refine ow_callV C (cv_X7_here _) (Nat.le_of_ble_eq_true rfl) kw_608 dX7_readState_1 (as := []) (st := []) rfl rfl (Nat.le_of_ble_eq_true rfl) hh (fun r2 h1 hq => ?_)
  obtain ⟨v3, rfl, hh⟩ := sr_I_e hq
  show Sat X 4 [.ref p0, .int x1, Value.null, Value.null] [.int v3] h1
  refine ow_bipush (v := 48) C dX7_readState_4 rfl ?_
  refine ow_isub C dX7_readState_6 ?_
  refine ow_istore_n (L' := [.ref p0, .int x1, .int (v3 - 48), Value.null]) C dX7_readState_7 rfl (by decide) rfl ?_
  refine ow_aload_n C dX7_readState_8 rfl rfl ?_
  refine ow_getI (ci := 6) (k := 8) (T := TX7) C rfl igX7 (by decide) kw_596 dX7_readState_9 hh (fun v4 hh => ?_)
  refine ow_istore_n (L' := [.ref p0, .int x1, .int (v3 - 48), .int v4]) C dX7_readState_12 rfl (by decide) rfl ?_
  refine ow_iload_n C dX7_readState_13 rfl rfl ?_
  refine ow_iconst (v := 0) C dX7_readState_14 rfl ?_
  refine ow_bipush (v := 9) C dX7_readState_15 rfl ?_
  refine ow_callS C (cs_X7_in _) (Nat.le_of_ble_eq_true rfl) kw_541 dX7_readState_17 (as := [.int (v3 - 48), .int 0, .int 9]) (st := []) rfl rfl (Nat.le_of_ble_eq_true rfl) hh (fun r6 h5 hq => ?_)
  obtain ⟨v7, rfl, hh⟩ := sr_I_e hq
  show Sat X 20 [.ref p0, .int x1, .int (v3 - 48), .int v4] [.int v7] h5
  refine ow_if_ne (tgt := 32) C dX7_readState_20 (by decide) hh (fun hh => ?_) (fun hh => ?_)
  · skip
    refine ow_aload_n C dX7_readState_32 rfl rfl ?_
    refine ow_dup C dX7_readState_33 rfl ?_
    refine ow_getI (ci := 6) (k := 8) (T := TX7) C rfl igX7 (by decide) kw_596 dX7_readState_34 hh (fun v8 hh => ?_)
    refine ow_iconst (v := 1) C dX7_readState_37 rfl ?_
    refine ow_iadd C dX7_readState_38 ?_
    refine ow_putI (ci := 6) (k := 8) (T := TX7) C rfl igX7 tyX7 tyX7_ok nmX7 (by decide) kw_596 rfl (by decide +kernel) dX7_readState_39 hh (fun h9 hh => ?_)
    refine ow_aload_n C dX7_readState_42 rfl rfl ?_
    refine ow_getI (ci := 6) (k := 8) (T := TX7) C rfl igX7 (by decide) kw_596 dX7_readState_43 hh (fun v10 hh => ?_)
    refine ow_aload_n C dX7_readState_46 rfl rfl ?_
    refine ow_getI (ci := 6) (k := 3) (T := TX7) C rfl igX7 (by decide) kw_591 dX7_readState_47 hh (fun v11 hh => ?_)
    refine ow_icmp_ge (tgt := 100) C dX7_readState_50 (by decide) hh (fun hh => ?_) (fun hh => ?_)
    · skip
      exact Sat.mask (bl_X7_readState_100 C Z p0 x1 (v3 - 48) v4 h9 hh) (mk_y (mk_y (mk_y (mk_y mk_0))))
    · skip
      refine ow_aload_n C dX7_readState_53 rfl rfl ?_
      refine ow_getR (ci := 6) (k := 2) (T := TX7) C rfl igX7 (by decide) kw_592 dX7_readState_54 hh (fun q12 hh => ?_)
      refine ow_aload_n C dX7_readState_57 rfl rfl ?_
      refine ow_getI (ci := 6) (k := 8) (T := TX7) C rfl igX7 (by decide) kw_596 dX7_readState_58 hh (fun v13 hh => ?_)
      refine ow_iaload C dX7_readState_61 hh (fun v14 hh => ?_)
      refine ow_bipush (v := 48) C dX7_readState_62 rfl ?_
      refine ow_bipush (v := 57) C dX7_readState_64 rfl ?_
      refine ow_callS C (cs_X7_in _) (Nat.le_of_ble_eq_true rfl) kw_541 dX7_readState_66 (as := [.int v14, .int 48, .int 57]) (st := []) rfl rfl (Nat.le_of_ble_eq_true rfl) hh (fun r16 h15 hq => ?_)
      obtain ⟨v17, rfl, hh⟩ := sr_I_e hq
      show Sat X 69 [.ref p0, .int x1, .int (v3 - 48), .int v4] [.int v17] h15
      refine ow_if_eq (tgt := 100) C dX7_readState_69 (by decide) hh (fun hh => ?_) (fun hh => ?_)
      · skip
        exact Sat.mask (bl_X7_readState_100 C Z p0 x1 (v3 - 48) v4 h15 hh) (mk_y (mk_y (mk_y (mk_y mk_0))))
      · skip
        refine ow_bipush (v := 10) C dX7_readState_72 rfl ?_
        refine ow_iload_n C dX7_readState_74 rfl rfl ?_
        refine ow_imul C dX7_readState_75 ?_
        refine ow_aload_n C dX7_readState_76 rfl rfl ?_
        refine ow_getR (ci := 6) (k := 2) (T := TX7) C rfl igX7 (by decide) kw_592 dX7_readState_77 hh (fun q18 hh => ?_)
        refine ow_aload_n C dX7_readState_80 rfl rfl ?_
        refine ow_getI (ci := 6) (k := 8) (T := TX7) C rfl igX7 (by decide) kw_596 dX7_readState_81 hh (fun v19 hh => ?_)
        refine ow_iaload C dX7_readState_84 hh (fun v20 hh => ?_)
        refine ow_iadd C dX7_readState_85 ?_
        refine ow_bipush (v := 48) C dX7_readState_86 rfl ?_
        refine ow_isub C dX7_readState_88 ?_
        refine ow_istore_n (L' := [.ref p0, .int x1, .int (((10 * (v3 - 48)) + v20) - 48), .int v4]) C dX7_readState_89 rfl (by decide) rfl ?_
        refine ow_aload_n C dX7_readState_90 rfl rfl ?_
        refine ow_dup C dX7_readState_91 rfl ?_
        refine ow_getI (ci := 6) (k := 8) (T := TX7) C rfl igX7 (by decide) kw_596 dX7_readState_92 hh (fun v21 hh => ?_)
        refine ow_iconst (v := 1) C dX7_readState_95 rfl ?_
        refine ow_iadd C dX7_readState_96 ?_
        refine ow_putI (ci := 6) (k := 8) (T := TX7) C rfl igX7 tyX7 tyX7_ok nmX7 (by decide) kw_596 rfl (by decide +kernel) dX7_readState_97 hh (fun h22 hh => ?_)
        exact Sat.mask (bl_X7_readState_100 C Z p0 x1 (((10 * (v3 - 48)) + v20) - 48) v4 h22 hh) (mk_y (mk_y (mk_y (mk_y mk_0))))
  · skip
    refine ow_aload_n C dX7_readState_23 rfl rfl ?_
    refine ow_aload_n C dX7_readState_24 rfl rfl ?_
    refine ow_getI (ci := 6) (k := 8) (T := TX7) C rfl igX7 (by decide) kw_596 dX7_readState_25 hh (fun v23 hh => ?_)
    refine ow_callV C (cv_X7_fault _) (Nat.le_of_ble_eq_true rfl) kw_609 dX7_readState_28 (as := [.int v23]) (st := []) rfl rfl (Nat.le_of_ble_eq_true rfl) hh (fun r25 h24 hq => ?_)
    obtain ⟨rfl, hh⟩ := sr_V_e hq
    show Sat X 31 [.ref p0, .int x1, .int (v3 - 48), .int v4] [] h24
    exact ow_vret Z dX7_readState_31 trivial hh
def tr_X7_readState : aw_T := fun as h Q => ∃ (p0 : Nat) (x1 : Int32), as = [.ref p0, .int x1] ∧ (sm_X7_readState_0  Q p0 x1 h)
theorem tq_X7_readState {p0 : Nat} {x1 : Int32} {h : aw_H} {Q : aw_R} : tr_X7_readState [.ref p0, .int x1] h Q ↔ (sm_X7_readState_0  Q p0 x1 h) := by
  constructor
  · rintro ⟨_, _, as0, hh⟩
    cases as0
    exact hh
  · intro hh
    exact ⟨_, _, rfl, hh⟩
theorem ct_X7_readState (E : aw_F) : CT E yX7_readState cX7_readState 4 none 2 tr_X7_readState := by
  refine ct_of (by decide) ?_
  intro X Q as h hE C Z hG
  subst hE
  obtain ⟨p0, x1, rfl, hh⟩ := hG
  refine ⟨[.ref p0, .int x1, Value.null, Value.null], rfl, Nat.le_of_ble_eq_true rfl, ?_⟩
  exact bl_X7_readState_0 C Z p0 x1 h hh
theorem cv_X7_readState (E : aw_F) : CV E yX7_readState cX7_readState 4 none 2 1 6 tr_X7_readState := ⟨ct_X7_readState E, by decide, kw_618, kw_619, kw_527, kw_617, by decide +kernel, _, _, rfl⟩
theorem dX7_kindOf_0 : decode cX7_kindOf 0 = .ok (.iload_n 0, 1) := by decide +kernel
theorem dX7_kindOf_1 : decode cX7_kindOf 1 = .ok (.lookupswitch 61 #[(98, 57), (99, 55), (105, 53), (112, 59), (116, 51)], 51) := by decide +kernel
theorem dX7_kindOf_52 : decode cX7_kindOf 52 = .ok (.iconst 0, 1) := by decide +kernel
theorem dX7_kindOf_53 : decode cX7_kindOf 53 = .ok (.ireturn, 1) := by decide +kernel
theorem dX7_kindOf_54 : decode cX7_kindOf 54 = .ok (.iconst 1, 1) := by decide +kernel
theorem dX7_kindOf_55 : decode cX7_kindOf 55 = .ok (.ireturn, 1) := by decide +kernel
theorem dX7_kindOf_56 : decode cX7_kindOf 56 = .ok (.iconst 2, 1) := by decide +kernel
theorem dX7_kindOf_57 : decode cX7_kindOf 57 = .ok (.ireturn, 1) := by decide +kernel
theorem dX7_kindOf_58 : decode cX7_kindOf 58 = .ok (.iconst 3, 1) := by decide +kernel
theorem dX7_kindOf_59 : decode cX7_kindOf 59 = .ok (.ireturn, 1) := by decide +kernel
theorem dX7_kindOf_60 : decode cX7_kindOf 60 = .ok (.iconst 4, 1) := by decide +kernel
theorem dX7_kindOf_61 : decode cX7_kindOf 61 = .ok (.ireturn, 1) := by decide +kernel
theorem dX7_kindOf_62 : decode cX7_kindOf 62 = .ok (.bipush (-4), 2) := by decide +kernel
theorem dX7_kindOf_64 : decode cX7_kindOf 64 = .ok (.ireturn, 1) := by decide +kernel
def sm_X7_kindOf_0  (Q : aw_R) (x0 : Int32) (h : aw_H) : Prop :=
  if x0 = 98 then (Q (some (.int 3)) h) else if x0 = 99 then (Q (some (.int 2)) h) else if x0 = 105 then (Q (some (.int 1)) h) else if x0 = 112 then (Q (some (.int 4)) h) else if x0 = 116 then (Q (some (.int 0)) h) else (Q (some (.int ((-4)))) h)
set_option maxRecDepth 100000 in
set_option maxHeartbeats 4000000 in
theorem bl_X7_kindOf_0 {X : aw_X} {Q : aw_R} (C : aw_C X cX7_kindOf RX7 1 0) (Z : aw_Z X cX7_kindOf (some .int) Q) (x0 : Int32) (h : aw_H) (hh : sm_X7_kindOf_0  Q x0 h) : Sat X 0 [.int x0] [] h := by
  unfold sm_X7_kindOf_0 at hh
  refine ow_iload_n C dX7_kindOf_0 rfl rfl ?_
  rcases if_e hh with ⟨hc98, hh⟩ | ⟨hc98, hh⟩
  · refine ow_lookup (tgt := 58) (off := 57) C dX7_kindOf_1 (by decide) (by first | (rw [hc98]; done) | (rw [hc98]; rfl)) (by decide) ?_
    refine ow_iconst (v := 3) C dX7_kindOf_58 rfl ?_
    exact ow_iret Z dX7_kindOf_59 trivial hh
  rcases if_e hh with ⟨hc99, hh⟩ | ⟨hc99, hh⟩
  · refine ow_lookup (tgt := 56) (off := 55) C dX7_kindOf_1 (by decide) (by first | (rw [hc99]; done) | (rw [hc99]; rfl)) (by decide) ?_
    refine ow_iconst (v := 2) C dX7_kindOf_56 rfl ?_
    exact ow_iret Z dX7_kindOf_57 trivial hh
  rcases if_e hh with ⟨hc105, hh⟩ | ⟨hc105, hh⟩
  · refine ow_lookup (tgt := 54) (off := 53) C dX7_kindOf_1 (by decide) (by first | (rw [hc105]; done) | (rw [hc105]; rfl)) (by decide) ?_
    refine ow_iconst (v := 1) C dX7_kindOf_54 rfl ?_
    exact ow_iret Z dX7_kindOf_55 trivial hh
  rcases if_e hh with ⟨hc112, hh⟩ | ⟨hc112, hh⟩
  · refine ow_lookup (tgt := 60) (off := 59) C dX7_kindOf_1 (by decide) (by first | (rw [hc112]; done) | (rw [hc112]; rfl)) (by decide) ?_
    refine ow_iconst (v := 4) C dX7_kindOf_60 rfl ?_
    exact ow_iret Z dX7_kindOf_61 trivial hh
  rcases if_e hh with ⟨hc116, hh⟩ | ⟨hc116, hh⟩
  · refine ow_lookup (tgt := 52) (off := 51) C dX7_kindOf_1 (by decide) (by first | (rw [hc116]; done) | (rw [hc116]; rfl)) (by decide) ?_
    refine ow_iconst (v := 0) C dX7_kindOf_52 rfl ?_
    exact ow_iret Z dX7_kindOf_53 trivial hh
  refine ow_lookup (tgt := 62) (off := 61) C dX7_kindOf_1 (by decide) (by show Op.lookupswitch.offset [(98, 57), (99, 55), (105, 53), (112, 59), (116, 51)] 61 _ = _; rw [lv_osw (a := 98) hc98 rfl]; rw [lv_osw (a := 99) hc99 rfl]; rw [lv_osw (a := 105) hc105 rfl]; rw [lv_osw (a := 112) hc112 rfl]; rw [lv_osw (a := 116) hc116 rfl]; rfl) (by decide) ?_
  refine ow_bipush (v := (-4)) C dX7_kindOf_62 rfl ?_
  exact ow_iret Z dX7_kindOf_64 trivial hh
def tr_X7_kindOf : aw_T := fun as h Q => ∃ (x0 : Int32), as = [.int x0] ∧ (sm_X7_kindOf_0  Q x0 h)
theorem tq_X7_kindOf {x0 : Int32} {h : aw_H} {Q : aw_R} : tr_X7_kindOf [.int x0] h Q ↔ (sm_X7_kindOf_0  Q x0 h) := by
  constructor
  · rintro ⟨_, as0, hh⟩
    cases as0
    exact hh
  · intro hh
    exact ⟨_, rfl, hh⟩
theorem ct_X7_kindOf (E : aw_F) : CT E yX7_kindOf cX7_kindOf 1 (some .int) 0 tr_X7_kindOf := by
  refine ct_of (by decide) ?_
  intro X Q as h hE C Z hG
  subst hE
  obtain ⟨x0, rfl, hh⟩ := hG
  refine ⟨[.int x0], rfl, Nat.le_of_ble_eq_true rfl, ?_⟩
  exact bl_X7_kindOf_0 C Z x0 h hh
theorem cs_X7_kindOf (E : aw_F) : CS E yX7_kindOf cX7_kindOf 1 (some .int) 0 1 tr_X7_kindOf := ⟨ct_X7_kindOf E, by decide, kw_621, kw_527, kw_620, by decide +kernel⟩
theorem dX7_readGate_0 : decode cX7_readGate 0 = .ok (.aload_n 0, 1) := by decide +kernel
theorem dX7_readGate_1 : decode cX7_readGate 1 = .ok (.invokevirtual 100, 3) := by decide +kernel
theorem dX7_readGate_4 : decode cX7_readGate 4 = .ok (.invokestatic 109, 3) := by decide +kernel
theorem dX7_readGate_7 : decode cX7_readGate 7 = .ok (.istore_n 2, 1) := by decide +kernel
theorem dX7_readGate_8 : decode cX7_readGate 8 = .ok (.iload_n 2, 1) := by decide +kernel
theorem dX7_readGate_9 : decode cX7_readGate 9 = .ok (.bipush (-4), 2) := by decide +kernel
theorem dX7_readGate_11 : decode cX7_readGate 11 = .ok (.if_icmp .ne 12, 3) := by decide +kernel
theorem dX7_readGate_14 : decode cX7_readGate 14 = .ok (.aload_n 0, 1) := by decide +kernel
theorem dX7_readGate_15 : decode cX7_readGate 15 = .ok (.aload_n 0, 1) := by decide +kernel
theorem dX7_readGate_16 : decode cX7_readGate 16 = .ok (.getfield 90, 3) := by decide +kernel
theorem dX7_readGate_19 : decode cX7_readGate 19 = .ok (.invokevirtual 103, 3) := by decide +kernel
theorem dX7_readGate_22 : decode cX7_readGate 22 = .ok (.return_, 1) := by decide +kernel
theorem dX7_readGate_23 : decode cX7_readGate 23 = .ok (.aload_n 0, 1) := by decide +kernel
theorem dX7_readGate_24 : decode cX7_readGate 24 = .ok (.dup, 1) := by decide +kernel
theorem dX7_readGate_25 : decode cX7_readGate 25 = .ok (.getfield 90, 3) := by decide +kernel
theorem dX7_readGate_28 : decode cX7_readGate 28 = .ok (.iconst 1, 1) := by decide +kernel
theorem dX7_readGate_29 : decode cX7_readGate 29 = .ok (.iadd, 1) := by decide +kernel
theorem dX7_readGate_30 : decode cX7_readGate 30 = .ok (.putfield 90, 3) := by decide +kernel
theorem dX7_readGate_33 : decode cX7_readGate 33 = .ok (.iconst 0, 1) := by decide +kernel
theorem dX7_readGate_34 : decode cX7_readGate 34 = .ok (.istore_n 3, 1) := by decide +kernel
theorem dX7_readGate_35 : decode cX7_readGate 35 = .ok (.iload_n 3, 1) := by decide +kernel
theorem dX7_readGate_36 : decode cX7_readGate 36 = .ok (.iconst 3, 1) := by decide +kernel
theorem dX7_readGate_37 : decode cX7_readGate 37 = .ok (.if_icmp .ge 16, 3) := by decide +kernel
theorem dX7_readGate_40 : decode cX7_readGate 40 = .ok (.aload_n 0, 1) := by decide +kernel
theorem dX7_readGate_41 : decode cX7_readGate 41 = .ok (.getfield 32, 3) := by decide +kernel
theorem dX7_readGate_44 : decode cX7_readGate 44 = .ok (.iload_n 3, 1) := by decide +kernel
theorem dX7_readGate_45 : decode cX7_readGate 45 = .ok (.iconst 0, 1) := by decide +kernel
theorem dX7_readGate_46 : decode cX7_readGate 46 = .ok (.iastore, 1) := by decide +kernel
theorem dX7_readGate_47 : decode cX7_readGate 47 = .ok (.iinc 3 1, 3) := by decide +kernel
theorem dX7_readGate_50 : decode cX7_readGate 50 = .ok (.goto (-15), 3) := by decide +kernel
theorem dX7_readGate_53 : decode cX7_readGate 53 = .ok (.iconst 0, 1) := by decide +kernel
theorem dX7_readGate_54 : decode cX7_readGate 54 = .ok (.istore_n 3, 1) := by decide +kernel
theorem dX7_readGate_55 : decode cX7_readGate 55 = .ok (.iload_n 3, 1) := by decide +kernel
theorem dX7_readGate_56 : decode cX7_readGate 56 = .ok (.iload_n 2, 1) := by decide +kernel
theorem dX7_readGate_57 : decode cX7_readGate 57 = .ok (.invokestatic 54, 3) := by decide +kernel
theorem dX7_readGate_60 : decode cX7_readGate 60 = .ok (.if_icmp .ge 75, 3) := by decide +kernel
theorem dX7_readGate_63 : decode cX7_readGate 63 = .ok (.aload_n 0, 1) := by decide +kernel
theorem dX7_readGate_64 : decode cX7_readGate 64 = .ok (.invokevirtual 96, 3) := by decide +kernel
theorem dX7_readGate_67 : decode cX7_readGate 67 = .ok (.ifCond .eq 68, 3) := by decide +kernel
theorem dX7_readGate_70 : decode cX7_readGate 70 = .ok (.aload_n 0, 1) := by decide +kernel
theorem dX7_readGate_71 : decode cX7_readGate 71 = .ok (.getfield 32, 3) := by decide +kernel
theorem dX7_readGate_74 : decode cX7_readGate 74 = .ok (.iload_n 3, 1) := by decide +kernel
theorem dX7_readGate_75 : decode cX7_readGate 75 = .ok (.aload_n 0, 1) := by decide +kernel
theorem dX7_readGate_76 : decode cX7_readGate 76 = .ok (.iconst 0, 1) := by decide +kernel
theorem dX7_readGate_77 : decode cX7_readGate 77 = .ok (.iload_n 1, 1) := by decide +kernel
theorem dX7_readGate_78 : decode cX7_readGate 78 = .ok (.iconst 1, 1) := by decide +kernel
theorem dX7_readGate_79 : decode cX7_readGate 79 = .ok (.isub, 1) := by decide +kernel
theorem dX7_readGate_80 : decode cX7_readGate 80 = .ok (.invokevirtual 112, 3) := by decide +kernel
theorem dX7_readGate_83 : decode cX7_readGate 83 = .ok (.iastore, 1) := by decide +kernel
theorem dX7_readGate_84 : decode cX7_readGate 84 = .ok (.aload_n 0, 1) := by decide +kernel
theorem dX7_readGate_85 : decode cX7_readGate 85 = .ok (.getfield 90, 3) := by decide +kernel
theorem dX7_readGate_88 : decode cX7_readGate 88 = .ok (.iconst 1, 1) := by decide +kernel
theorem dX7_readGate_89 : decode cX7_readGate 89 = .ok (.isub, 1) := by decide +kernel
theorem dX7_readGate_90 : decode cX7_readGate 90 = .ok (.istore 4, 2) := by decide +kernel
theorem dX7_readGate_92 : decode cX7_readGate 92 = .ok (.iconst 0, 1) := by decide +kernel
theorem dX7_readGate_93 : decode cX7_readGate 93 = .ok (.istore 5, 2) := by decide +kernel
theorem dX7_readGate_95 : decode cX7_readGate 95 = .ok (.iload 5, 2) := by decide +kernel
theorem dX7_readGate_97 : decode cX7_readGate 97 = .ok (.iload_n 3, 1) := by decide +kernel
theorem dX7_readGate_98 : decode cX7_readGate 98 = .ok (.if_icmp .ge 31, 3) := by decide +kernel
theorem dX7_readGate_101 : decode cX7_readGate 101 = .ok (.aload_n 0, 1) := by decide +kernel
theorem dX7_readGate_102 : decode cX7_readGate 102 = .ok (.getfield 32, 3) := by decide +kernel
theorem dX7_readGate_105 : decode cX7_readGate 105 = .ok (.iload 5, 2) := by decide +kernel
theorem dX7_readGate_107 : decode cX7_readGate 107 = .ok (.iaload, 1) := by decide +kernel
theorem dX7_readGate_108 : decode cX7_readGate 108 = .ok (.aload_n 0, 1) := by decide +kernel
theorem dX7_readGate_109 : decode cX7_readGate 109 = .ok (.getfield 32, 3) := by decide +kernel
theorem dX7_readGate_112 : decode cX7_readGate 112 = .ok (.iload_n 3, 1) := by decide +kernel
theorem dX7_readGate_113 : decode cX7_readGate 113 = .ok (.iaload, 1) := by decide +kernel
theorem dX7_readGate_114 : decode cX7_readGate 114 = .ok (.if_icmp .ne 9, 3) := by decide +kernel
theorem dX7_readGate_117 : decode cX7_readGate 117 = .ok (.aload_n 0, 1) := by decide +kernel
theorem dX7_readGate_118 : decode cX7_readGate 118 = .ok (.iload 4, 2) := by decide +kernel
theorem dX7_readGate_120 : decode cX7_readGate 120 = .ok (.invokevirtual 103, 3) := by decide +kernel
theorem dX7_readGate_123 : decode cX7_readGate 123 = .ok (.iinc 5 1, 3) := by decide +kernel
theorem dX7_readGate_126 : decode cX7_readGate 126 = .ok (.goto (-31), 3) := by decide +kernel
theorem dX7_readGate_129 : decode cX7_readGate 129 = .ok (.iinc 3 1, 3) := by decide +kernel
theorem dX7_readGate_132 : decode cX7_readGate 132 = .ok (.goto (-77), 3) := by decide +kernel
theorem dX7_readGate_135 : decode cX7_readGate 135 = .ok (.iconst 5, 1) := by decide +kernel
theorem dX7_readGate_136 : decode cX7_readGate 136 = .ok (.aload_n 0, 1) := by decide +kernel
theorem dX7_readGate_137 : decode cX7_readGate 137 = .ok (.getfield 116, 3) := by decide +kernel
theorem dX7_readGate_140 : decode cX7_readGate 140 = .ok (.imul, 1) := by decide +kernel
theorem dX7_readGate_141 : decode cX7_readGate 141 = .ok (.istore_n 3, 1) := by decide +kernel
theorem dX7_readGate_142 : decode cX7_readGate 142 = .ok (.aload_n 0, 1) := by decide +kernel
theorem dX7_readGate_143 : decode cX7_readGate 143 = .ok (.getfield 29, 3) := by decide +kernel
theorem dX7_readGate_146 : decode cX7_readGate 146 = .ok (.iload_n 3, 1) := by decide +kernel
theorem dX7_readGate_147 : decode cX7_readGate 147 = .ok (.iload_n 2, 1) := by decide +kernel
theorem dX7_readGate_148 : decode cX7_readGate 148 = .ok (.iastore, 1) := by decide +kernel
theorem dX7_readGate_149 : decode cX7_readGate 149 = .ok (.aload_n 0, 1) := by decide +kernel
theorem dX7_readGate_150 : decode cX7_readGate 150 = .ok (.getfield 29, 3) := by decide +kernel
theorem dX7_readGate_153 : decode cX7_readGate 153 = .ok (.iload_n 3, 1) := by decide +kernel
theorem dX7_readGate_154 : decode cX7_readGate 154 = .ok (.iconst 1, 1) := by decide +kernel
theorem dX7_readGate_155 : decode cX7_readGate 155 = .ok (.iadd, 1) := by decide +kernel
theorem dX7_readGate_156 : decode cX7_readGate 156 = .ok (.aload_n 0, 1) := by decide +kernel
theorem dX7_readGate_157 : decode cX7_readGate 157 = .ok (.getfield 32, 3) := by decide +kernel
theorem dX7_readGate_160 : decode cX7_readGate 160 = .ok (.iconst 0, 1) := by decide +kernel
theorem dX7_readGate_161 : decode cX7_readGate 161 = .ok (.iaload, 1) := by decide +kernel
theorem dX7_readGate_162 : decode cX7_readGate 162 = .ok (.iastore, 1) := by decide +kernel
theorem dX7_readGate_163 : decode cX7_readGate 163 = .ok (.aload_n 0, 1) := by decide +kernel
theorem dX7_readGate_164 : decode cX7_readGate 164 = .ok (.getfield 29, 3) := by decide +kernel
theorem dX7_readGate_167 : decode cX7_readGate 167 = .ok (.iload_n 3, 1) := by decide +kernel
theorem dX7_readGate_168 : decode cX7_readGate 168 = .ok (.iconst 2, 1) := by decide +kernel
theorem dX7_readGate_169 : decode cX7_readGate 169 = .ok (.iadd, 1) := by decide +kernel
theorem dX7_readGate_170 : decode cX7_readGate 170 = .ok (.aload_n 0, 1) := by decide +kernel
theorem dX7_readGate_171 : decode cX7_readGate 171 = .ok (.getfield 32, 3) := by decide +kernel
theorem dX7_readGate_174 : decode cX7_readGate 174 = .ok (.iconst 1, 1) := by decide +kernel
theorem dX7_readGate_175 : decode cX7_readGate 175 = .ok (.iaload, 1) := by decide +kernel
theorem dX7_readGate_176 : decode cX7_readGate 176 = .ok (.iastore, 1) := by decide +kernel
theorem dX7_readGate_177 : decode cX7_readGate 177 = .ok (.aload_n 0, 1) := by decide +kernel
theorem dX7_readGate_178 : decode cX7_readGate 178 = .ok (.getfield 29, 3) := by decide +kernel
theorem dX7_readGate_181 : decode cX7_readGate 181 = .ok (.iload_n 3, 1) := by decide +kernel
theorem dX7_readGate_182 : decode cX7_readGate 182 = .ok (.iconst 3, 1) := by decide +kernel
theorem dX7_readGate_183 : decode cX7_readGate 183 = .ok (.iadd, 1) := by decide +kernel
theorem dX7_readGate_184 : decode cX7_readGate 184 = .ok (.aload_n 0, 1) := by decide +kernel
theorem dX7_readGate_185 : decode cX7_readGate 185 = .ok (.getfield 32, 3) := by decide +kernel
theorem dX7_readGate_188 : decode cX7_readGate 188 = .ok (.iconst 2, 1) := by decide +kernel
theorem dX7_readGate_189 : decode cX7_readGate 189 = .ok (.iaload, 1) := by decide +kernel
theorem dX7_readGate_190 : decode cX7_readGate 190 = .ok (.iastore, 1) := by decide +kernel
theorem dX7_readGate_191 : decode cX7_readGate 191 = .ok (.aload_n 0, 1) := by decide +kernel
theorem dX7_readGate_192 : decode cX7_readGate 192 = .ok (.getfield 29, 3) := by decide +kernel
theorem dX7_readGate_195 : decode cX7_readGate 195 = .ok (.iload_n 3, 1) := by decide +kernel
theorem dX7_readGate_196 : decode cX7_readGate 196 = .ok (.iconst 4, 1) := by decide +kernel
theorem dX7_readGate_197 : decode cX7_readGate 197 = .ok (.iadd, 1) := by decide +kernel
theorem dX7_readGate_198 : decode cX7_readGate 198 = .ok (.aload_n 0, 1) := by decide +kernel
theorem dX7_readGate_199 : decode cX7_readGate 199 = .ok (.invokevirtual 100, 3) := by decide +kernel
theorem dX7_readGate_202 : decode cX7_readGate 202 = .ok (.bipush 33, 2) := by decide +kernel
theorem dX7_readGate_204 : decode cX7_readGate 204 = .ok (.if_icmp .ne 7, 3) := by decide +kernel
theorem dX7_readGate_207 : decode cX7_readGate 207 = .ok (.iconst 1, 1) := by decide +kernel
theorem dX7_readGate_208 : decode cX7_readGate 208 = .ok (.goto 4, 3) := by decide +kernel
theorem dX7_readGate_211 : decode cX7_readGate 211 = .ok (.iconst 0, 1) := by decide +kernel
theorem dX7_readGate_212 : decode cX7_readGate 212 = .ok (.iastore, 1) := by decide +kernel
theorem dX7_readGate_213 : decode cX7_readGate 213 = .ok (.aload_n 0, 1) := by decide +kernel
theorem dX7_readGate_214 : decode cX7_readGate 214 = .ok (.dup, 1) := by decide +kernel
theorem dX7_readGate_215 : decode cX7_readGate 215 = .ok (.getfield 90, 3) := by decide +kernel
theorem dX7_readGate_218 : decode cX7_readGate 218 = .ok (.aload_n 0, 1) := by decide +kernel
theorem dX7_readGate_219 : decode cX7_readGate 219 = .ok (.getfield 29, 3) := by decide +kernel
theorem dX7_readGate_222 : decode cX7_readGate 222 = .ok (.iload_n 3, 1) := by decide +kernel
theorem dX7_readGate_223 : decode cX7_readGate 223 = .ok (.iconst 4, 1) := by decide +kernel
theorem dX7_readGate_224 : decode cX7_readGate 224 = .ok (.iadd, 1) := by decide +kernel
theorem dX7_readGate_225 : decode cX7_readGate 225 = .ok (.iaload, 1) := by decide +kernel
theorem dX7_readGate_226 : decode cX7_readGate 226 = .ok (.iadd, 1) := by decide +kernel
theorem dX7_readGate_227 : decode cX7_readGate 227 = .ok (.putfield 90, 3) := by decide +kernel
theorem dX7_readGate_230 : decode cX7_readGate 230 = .ok (.aload_n 0, 1) := by decide +kernel
theorem dX7_readGate_231 : decode cX7_readGate 231 = .ok (.dup, 1) := by decide +kernel
theorem dX7_readGate_232 : decode cX7_readGate 232 = .ok (.getfield 116, 3) := by decide +kernel
theorem dX7_readGate_235 : decode cX7_readGate 235 = .ok (.iconst 1, 1) := by decide +kernel
theorem dX7_readGate_236 : decode cX7_readGate 236 = .ok (.iadd, 1) := by decide +kernel
theorem dX7_readGate_237 : decode cX7_readGate 237 = .ok (.putfield 116, 3) := by decide +kernel
theorem dX7_readGate_240 : decode cX7_readGate 240 = .ok (.return_, 1) := by decide +kernel
def sm_X7_readGate_212 (K35 : Nat → Int32 → Int32 → Int32 → aw_H → Prop) (K55 : Nat → Int32 → Int32 → Int32 → aw_H → Prop) (K95 : Nat → Int32 → Int32 → Int32 → Int32 → Int32 → aw_H → Prop) (Q : aw_R) (p0 : Nat) (x3 : Int32) (ps0 : Nat) (xs1 : Int32) (xs2 : Int32) (h : aw_H) : Prop :=
  ss_I h ps0 xs1 xs2 fun h1 => sg_I h1 p0 6 8 fun v2 => sg_R h1 p0 6 12 fun q3 => sa_I h1 q3 (x3 + 4) fun v4 => sp_I h1 p0 6 8 (v2 + v4) fun h5 => sg_I h5 p0 6 11 fun v6 => sp_I h5 p0 6 11 (v6 + 1) fun h7 => Q none h7
set_option maxRecDepth 100000 in
set_option maxHeartbeats 4000000 in
theorem bl_X7_readGate_212 {X : aw_X} {Q : aw_R} (C : aw_C X cX7_readGate RX7 6 3) (Z : aw_Z X cX7_readGate none Q) (p0 : Nat) (x3 : Int32) (ps0 : Nat) (xs1 : Int32) (xs2 : Int32) (h : aw_H) (hh : sm_X7_readGate_212 (fun (p0 : Nat) (x1 : Int32) (x2 : Int32) (x3 : Int32) (h : aw_H) => Sat X 35 [.ref p0, .int x1, .int x2, .int x3, Value.null, Value.null] [] h) (fun (p0 : Nat) (x1 : Int32) (x2 : Int32) (x3 : Int32) (h : aw_H) => Sat X 55 [.ref p0, .int x1, .int x2, .int x3, Value.null, Value.null] [] h) (fun (p0 : Nat) (x1 : Int32) (x2 : Int32) (x3 : Int32) (x4 : Int32) (x5 : Int32) (h : aw_H) => Sat X 95 [.ref p0, .int x1, .int x2, .int x3, .int x4, .int x5] [] h) Q p0 x3 ps0 xs1 xs2 h) : Sat X 212 [.ref p0, Value.null, Value.null, .int x3, Value.null, Value.null] [.int xs2, .int xs1, .ref ps0] h := by
  unfold sm_X7_readGate_212 at hh
  refine ow_iastore C dX7_readGate_212 hh (fun h1 hh => ?_)
  refine ow_aload_n C dX7_readGate_213 rfl rfl ?_
  refine ow_dup C dX7_readGate_214 rfl ?_
  refine ow_getI (ci := 6) (k := 8) (T := TX7) C rfl igX7 (by decide) kw_596 dX7_readGate_215 hh (fun v2 hh => ?_)
  refine ow_aload_n C dX7_readGate_218 rfl rfl ?_
  refine ow_getR (ci := 6) (k := 12) (T := TX7) C rfl igX7 (by decide) kw_622 dX7_readGate_219 hh (fun q3 hh => ?_)
  refine ow_iload_n C dX7_readGate_222 rfl rfl ?_
  refine ow_iconst (v := 4) C dX7_readGate_223 rfl ?_
  refine ow_iadd C dX7_readGate_224 ?_
  refine ow_iaload C dX7_readGate_225 hh (fun v4 hh => ?_)
  refine ow_iadd C dX7_readGate_226 ?_
  refine ow_putI (ci := 6) (k := 8) (T := TX7) C rfl igX7 tyX7 tyX7_ok nmX7 (by decide) kw_596 rfl (by decide +kernel) dX7_readGate_227 hh (fun h5 hh => ?_)
  refine ow_aload_n C dX7_readGate_230 rfl rfl ?_
  refine ow_dup C dX7_readGate_231 rfl ?_
  refine ow_getI (ci := 6) (k := 11) (T := TX7) C rfl igX7 (by decide) kw_623 dX7_readGate_232 hh (fun v6 hh => ?_)
  refine ow_iconst (v := 1) C dX7_readGate_235 rfl ?_
  refine ow_iadd C dX7_readGate_236 ?_
  refine ow_putI (ci := 6) (k := 11) (T := TX7) C rfl igX7 tyX7 tyX7_ok nmX7 (by decide) kw_623 rfl (by decide +kernel) dX7_readGate_237 hh (fun h7 hh => ?_)
  exact ow_vret Z dX7_readGate_240 trivial hh
def sm_X7_readGate_135 (K35 : Nat → Int32 → Int32 → Int32 → aw_H → Prop) (K55 : Nat → Int32 → Int32 → Int32 → aw_H → Prop) (K95 : Nat → Int32 → Int32 → Int32 → Int32 → Int32 → aw_H → Prop) (Q : aw_R) (p0 : Nat) (x2 : Int32) (h : aw_H) : Prop :=
  sg_I h p0 6 11 fun v1 => sg_R h p0 6 12 fun q2 => ss_I h q2 (5 * v1) x2 fun h3 => sg_R h3 p0 6 12 fun q4 => sg_R h3 p0 6 13 fun q5 => sa_I h3 q5 0 fun v6 => ss_I h3 q4 ((5 * v1) + 1) v6 fun h7 => sg_R h7 p0 6 12 fun q8 => sg_R h7 p0 6 13 fun q9 => sa_I h7 q9 1 fun v10 => ss_I h7 q8 ((5 * v1) + 2) v10 fun h11 => sg_R h11 p0 6 12 fun q12 => sg_R h11 p0 6 13 fun q13 => sa_I h11 q13 2 fun v14 => ss_I h11 q12 ((5 * v1) + 3) v14 fun h15 => sg_R h15 p0 6 12 fun q16 => sv_O h15 p0 6 (tr_X7_here [.ref p0] h15 fun r18 h17 => sr_I r18 fun v19 => if ¬ v19 = 33 then (sm_X7_readGate_212 K35 K55 K95 Q p0 (5 * v1) q16 ((5 * v1) + 4) 0 h17) else (sm_X7_readGate_212 K35 K55 K95 Q p0 (5 * v1) q16 ((5 * v1) + 4) 1 h17))
set_option maxRecDepth 100000 in
set_option maxHeartbeats 4000000 in
theorem bl_X7_readGate_135 {X : aw_X} {Q : aw_R} (C : aw_C X cX7_readGate RX7 6 3) (Z : aw_Z X cX7_readGate none Q) (p0 : Nat) (x2 : Int32) (h : aw_H) (hh : sm_X7_readGate_135 (fun (p0 : Nat) (x1 : Int32) (x2 : Int32) (x3 : Int32) (h : aw_H) => Sat X 35 [.ref p0, .int x1, .int x2, .int x3, Value.null, Value.null] [] h) (fun (p0 : Nat) (x1 : Int32) (x2 : Int32) (x3 : Int32) (h : aw_H) => Sat X 55 [.ref p0, .int x1, .int x2, .int x3, Value.null, Value.null] [] h) (fun (p0 : Nat) (x1 : Int32) (x2 : Int32) (x3 : Int32) (x4 : Int32) (x5 : Int32) (h : aw_H) => Sat X 95 [.ref p0, .int x1, .int x2, .int x3, .int x4, .int x5] [] h) Q p0 x2 h) : Sat X 135 [.ref p0, Value.null, .int x2, Value.null, Value.null, Value.null] [] h := by
  unfold sm_X7_readGate_135 at hh
  refine ow_iconst (v := 5) C dX7_readGate_135 rfl ?_
  refine ow_aload_n C dX7_readGate_136 rfl rfl ?_
  refine ow_getI (ci := 6) (k := 11) (T := TX7) C rfl igX7 (by decide) kw_623 dX7_readGate_137 hh (fun v1 hh => ?_)
  refine ow_imul C dX7_readGate_140 ?_
  refine ow_istore_n (L' := [.ref p0, Value.null, .int x2, .int (5 * v1), Value.null, Value.null]) C dX7_readGate_141 rfl (by decide) rfl ?_
  refine ow_aload_n C dX7_readGate_142 rfl rfl ?_
  refine ow_getR (ci := 6) (k := 12) (T := TX7) C rfl igX7 (by decide) kw_622 dX7_readGate_143 hh (fun q2 hh => ?_)
  refine ow_iload_n C dX7_readGate_146 rfl rfl ?_
  refine ow_iload_n C dX7_readGate_147 rfl rfl ?_
  refine ow_iastore C dX7_readGate_148 hh (fun h3 hh => ?_)
  refine ow_aload_n C dX7_readGate_149 rfl rfl ?_
  refine ow_getR (ci := 6) (k := 12) (T := TX7) C rfl igX7 (by decide) kw_622 dX7_readGate_150 hh (fun q4 hh => ?_)
  refine ow_iload_n C dX7_readGate_153 rfl rfl ?_
  refine ow_iconst (v := 1) C dX7_readGate_154 rfl ?_
  refine ow_iadd C dX7_readGate_155 ?_
  refine ow_aload_n C dX7_readGate_156 rfl rfl ?_
  refine ow_getR (ci := 6) (k := 13) (T := TX7) C rfl igX7 (by decide) kw_624 dX7_readGate_157 hh (fun q5 hh => ?_)
  refine ow_iconst (v := 0) C dX7_readGate_160 rfl ?_
  refine ow_iaload C dX7_readGate_161 hh (fun v6 hh => ?_)
  refine ow_iastore C dX7_readGate_162 hh (fun h7 hh => ?_)
  refine ow_aload_n C dX7_readGate_163 rfl rfl ?_
  refine ow_getR (ci := 6) (k := 12) (T := TX7) C rfl igX7 (by decide) kw_622 dX7_readGate_164 hh (fun q8 hh => ?_)
  refine ow_iload_n C dX7_readGate_167 rfl rfl ?_
  refine ow_iconst (v := 2) C dX7_readGate_168 rfl ?_
  refine ow_iadd C dX7_readGate_169 ?_
  refine ow_aload_n C dX7_readGate_170 rfl rfl ?_
  refine ow_getR (ci := 6) (k := 13) (T := TX7) C rfl igX7 (by decide) kw_624 dX7_readGate_171 hh (fun q9 hh => ?_)
  refine ow_iconst (v := 1) C dX7_readGate_174 rfl ?_
  refine ow_iaload C dX7_readGate_175 hh (fun v10 hh => ?_)
  refine ow_iastore C dX7_readGate_176 hh (fun h11 hh => ?_)
  refine ow_aload_n C dX7_readGate_177 rfl rfl ?_
  refine ow_getR (ci := 6) (k := 12) (T := TX7) C rfl igX7 (by decide) kw_622 dX7_readGate_178 hh (fun q12 hh => ?_)
  refine ow_iload_n C dX7_readGate_181 rfl rfl ?_
  refine ow_iconst (v := 3) C dX7_readGate_182 rfl ?_
  refine ow_iadd C dX7_readGate_183 ?_
  refine ow_aload_n C dX7_readGate_184 rfl rfl ?_
  refine ow_getR (ci := 6) (k := 13) (T := TX7) C rfl igX7 (by decide) kw_624 dX7_readGate_185 hh (fun q13 hh => ?_)
  refine ow_iconst (v := 2) C dX7_readGate_188 rfl ?_
  refine ow_iaload C dX7_readGate_189 hh (fun v14 hh => ?_)
  refine ow_iastore C dX7_readGate_190 hh (fun h15 hh => ?_)
  refine ow_aload_n C dX7_readGate_191 rfl rfl ?_
  refine ow_getR (ci := 6) (k := 12) (T := TX7) C rfl igX7 (by decide) kw_622 dX7_readGate_192 hh (fun q16 hh => ?_)
  refine ow_iload_n C dX7_readGate_195 rfl rfl ?_
  refine ow_iconst (v := 4) C dX7_readGate_196 rfl ?_
  refine ow_iadd C dX7_readGate_197 ?_
  refine ow_aload_n C dX7_readGate_198 rfl rfl ?_
  refine ow_callV C (cv_X7_here _) (Nat.le_of_ble_eq_true rfl) kw_608 dX7_readGate_199 (as := []) (st := [.int ((5 * v1) + 4), .ref q16]) rfl rfl (Nat.le_of_ble_eq_true rfl) hh (fun r18 h17 hq => ?_)
  obtain ⟨v19, rfl, hh⟩ := sr_I_e hq
  show Sat X 202 [.ref p0, Value.null, .int x2, .int (5 * v1), Value.null, Value.null] [.int v19, .int ((5 * v1) + 4), .ref q16] h17
  refine ow_bipush (v := 33) C dX7_readGate_202 rfl ?_
  refine ow_icmp_ne (tgt := 211) C dX7_readGate_204 (by decide) hh (fun hh => ?_) (fun hh => ?_)
  · skip
    refine ow_iconst (v := 0) C dX7_readGate_211 rfl ?_
    exact Sat.mask (bl_X7_readGate_212 C Z p0 (5 * v1) q16 ((5 * v1) + 4) 0 h17 hh) (mk_y (mk_n (mk_n (mk_y (mk_n (mk_n mk_0))))))
  · skip
    refine ow_iconst (v := 1) C dX7_readGate_207 rfl ?_
    refine ow_goto (tgt := 212) C dX7_readGate_208 (by decide) ?_
    exact Sat.mask (bl_X7_readGate_212 C Z p0 (5 * v1) q16 ((5 * v1) + 4) 1 h17 hh) (mk_y (mk_n (mk_n (mk_y (mk_n (mk_n mk_0))))))
def sm_X7_readGate_95 (K35 : Nat → Int32 → Int32 → Int32 → aw_H → Prop) (K55 : Nat → Int32 → Int32 → Int32 → aw_H → Prop) (K95 : Nat → Int32 → Int32 → Int32 → Int32 → Int32 → aw_H → Prop) (Q : aw_R) (p0 : Nat) (x1 : Int32) (x2 : Int32) (x3 : Int32) (x4 : Int32) (x5 : Int32) (h : aw_H) : Prop :=
  if x3 ≤ x5 then (K55 p0 x1 x2 (x3 + 1) h) else (sg_R h p0 6 13 fun q1 => sa_I h q1 x5 fun v2 => sg_R h p0 6 13 fun q3 => sa_I h q3 x3 fun v4 => if ¬ v2 = v4 then (K95 p0 x1 x2 x3 x4 (x5 + 1) h) else (sv_O h p0 6 (tr_X7_fault [.ref p0, .int x4] h fun r6 h5 => sr_V r6 <| K95 p0 x1 x2 x3 x4 (x5 + 1) h5)))
set_option maxRecDepth 100000 in
set_option maxHeartbeats 4000000 in
theorem bl_X7_readGate_95 {X : aw_X} {Q : aw_R} (C : aw_C X cX7_readGate RX7 6 3) (Z : aw_Z X cX7_readGate none Q) (p0 : Nat) (x1 : Int32) (x2 : Int32) (x3 : Int32) (x4 : Int32) (x5 : Int32) (h : aw_H) (hh : sm_X7_readGate_95 (fun (p0 : Nat) (x1 : Int32) (x2 : Int32) (x3 : Int32) (h : aw_H) => Sat X 35 [.ref p0, .int x1, .int x2, .int x3, Value.null, Value.null] [] h) (fun (p0 : Nat) (x1 : Int32) (x2 : Int32) (x3 : Int32) (h : aw_H) => Sat X 55 [.ref p0, .int x1, .int x2, .int x3, Value.null, Value.null] [] h) (fun (p0 : Nat) (x1 : Int32) (x2 : Int32) (x3 : Int32) (x4 : Int32) (x5 : Int32) (h : aw_H) => Sat X 95 [.ref p0, .int x1, .int x2, .int x3, .int x4, .int x5] [] h) Q p0 x1 x2 x3 x4 x5 h) : Sat X 95 [.ref p0, .int x1, .int x2, .int x3, .int x4, .int x5] [] h := by
  unfold sm_X7_readGate_95 at hh
  refine ow_iload C dX7_readGate_95 rfl ?_
  refine ow_iload_n C dX7_readGate_97 rfl rfl ?_
  refine ow_icmp_ge (tgt := 129) C dX7_readGate_98 (by decide) hh (fun hh => ?_) (fun hh => ?_)
  · skip
    refine ow_iinc (v := x3 + 1) (L' := [.ref p0, .int x1, .int x2, .int (x3 + 1), .int x4, .int x5]) C dX7_readGate_129 rfl rfl (by decide) rfl ?_
    refine ow_goto (tgt := 55) C dX7_readGate_132 (by decide) ?_
    exact Sat.mask hh (mk_y (mk_y (mk_y (mk_y (mk_n (mk_n mk_0))))))
  · skip
    refine ow_aload_n C dX7_readGate_101 rfl rfl ?_
    refine ow_getR (ci := 6) (k := 13) (T := TX7) C rfl igX7 (by decide) kw_624 dX7_readGate_102 hh (fun q1 hh => ?_)
    refine ow_iload C dX7_readGate_105 rfl ?_
    refine ow_iaload C dX7_readGate_107 hh (fun v2 hh => ?_)
    refine ow_aload_n C dX7_readGate_108 rfl rfl ?_
    refine ow_getR (ci := 6) (k := 13) (T := TX7) C rfl igX7 (by decide) kw_624 dX7_readGate_109 hh (fun q3 hh => ?_)
    refine ow_iload_n C dX7_readGate_112 rfl rfl ?_
    refine ow_iaload C dX7_readGate_113 hh (fun v4 hh => ?_)
    refine ow_icmp_ne (tgt := 123) C dX7_readGate_114 (by decide) hh (fun hh => ?_) (fun hh => ?_)
    · skip
      refine ow_iinc (v := x5 + 1) (L' := [.ref p0, .int x1, .int x2, .int x3, .int x4, .int (x5 + 1)]) C dX7_readGate_123 rfl rfl (by decide) rfl ?_
      refine ow_goto (tgt := 95) C dX7_readGate_126 (by decide) ?_
      exact Sat.mask hh (mk_y (mk_y (mk_y (mk_y (mk_y (mk_y mk_0))))))
    · skip
      refine ow_aload_n C dX7_readGate_117 rfl rfl ?_
      refine ow_iload C dX7_readGate_118 rfl ?_
      refine ow_callV C (cv_X7_fault _) (Nat.le_of_ble_eq_true rfl) kw_609 dX7_readGate_120 (as := [.int x4]) (st := []) rfl rfl (Nat.le_of_ble_eq_true rfl) hh (fun r6 h5 hq => ?_)
      obtain ⟨rfl, hh⟩ := sr_V_e hq
      show Sat X 123 [.ref p0, .int x1, .int x2, .int x3, .int x4, .int x5] [] h5
      refine ow_iinc (v := x5 + 1) (L' := [.ref p0, .int x1, .int x2, .int x3, .int x4, .int (x5 + 1)]) C dX7_readGate_123 rfl rfl (by decide) rfl ?_
      refine ow_goto (tgt := 95) C dX7_readGate_126 (by decide) ?_
      exact Sat.mask hh (mk_y (mk_y (mk_y (mk_y (mk_y (mk_y mk_0))))))
def sm_X7_readGate_55 (K35 : Nat → Int32 → Int32 → Int32 → aw_H → Prop) (K55 : Nat → Int32 → Int32 → Int32 → aw_H → Prop) (K95 : Nat → Int32 → Int32 → Int32 → Int32 → Int32 → aw_H → Prop) (Q : aw_R) (p0 : Nat) (x1 : Int32) (x2 : Int32) (x3 : Int32) (h : aw_H) : Prop :=
  tr_X7_wiresOf [.int x2] h fun r2 h1 => sr_I r2 fun v3 => if v3 ≤ x3 then (sm_X7_readGate_135 K35 K55 K95 Q p0 x2 h1) else (sv_O h1 p0 6 (tr_X7_fine [.ref p0] h1 fun r5 h4 => sr_I r5 fun v6 => if v6 = 0 then (sm_X7_readGate_135 K35 K55 K95 Q p0 x2 h4) else (sg_R h4 p0 6 13 fun q7 => sv_O h4 p0 6 (tr_X7_digit [.ref p0, .int 0, .int (x1 - 1)] h4 fun r9 h8 => sr_I r9 fun v10 => ss_I h8 q7 x3 v10 fun h11 => sg_I h11 p0 6 8 fun v12 => K95 p0 x1 x2 x3 (v12 - 1) 0 h11))))
set_option maxRecDepth 100000 in
set_option maxHeartbeats 4000000 in
theorem bl_X7_readGate_55 {X : aw_X} {Q : aw_R} (C : aw_C X cX7_readGate RX7 6 3) (Z : aw_Z X cX7_readGate none Q) (p0 : Nat) (x1 : Int32) (x2 : Int32) (x3 : Int32) (h : aw_H) (hh : sm_X7_readGate_55 (fun (p0 : Nat) (x1 : Int32) (x2 : Int32) (x3 : Int32) (h : aw_H) => Sat X 35 [.ref p0, .int x1, .int x2, .int x3, Value.null, Value.null] [] h) (fun (p0 : Nat) (x1 : Int32) (x2 : Int32) (x3 : Int32) (h : aw_H) => Sat X 55 [.ref p0, .int x1, .int x2, .int x3, Value.null, Value.null] [] h) (fun (p0 : Nat) (x1 : Int32) (x2 : Int32) (x3 : Int32) (x4 : Int32) (x5 : Int32) (h : aw_H) => Sat X 95 [.ref p0, .int x1, .int x2, .int x3, .int x4, .int x5] [] h) Q p0 x1 x2 x3 h) : Sat X 55 [.ref p0, .int x1, .int x2, .int x3, Value.null, Value.null] [] h := by
  unfold sm_X7_readGate_55 at hh
  refine ow_iload_n C dX7_readGate_55 rfl rfl ?_
  refine ow_iload_n C dX7_readGate_56 rfl rfl ?_
  refine ow_callS C (cs_X7_wiresOf _) (Nat.le_of_ble_eq_true rfl) kw_567 dX7_readGate_57 (as := [.int x2]) (st := [.int x3]) rfl rfl (Nat.le_of_ble_eq_true rfl) hh (fun r2 h1 hq => ?_)
  obtain ⟨v3, rfl, hh⟩ := sr_I_e hq
  show Sat X 60 [.ref p0, .int x1, .int x2, .int x3, Value.null, Value.null] [.int v3, .int x3] h1
  refine ow_icmp_ge (tgt := 135) C dX7_readGate_60 (by decide) hh (fun hh => ?_) (fun hh => ?_)
  · skip
    exact Sat.mask (bl_X7_readGate_135 C Z p0 x2 h1 hh) (mk_y (mk_n (mk_y (mk_n (mk_n (mk_n mk_0))))))
  · skip
    refine ow_aload_n C dX7_readGate_63 rfl rfl ?_
    refine ow_callV C (cv_X7_fine _) (Nat.le_of_ble_eq_true rfl) kw_604 dX7_readGate_64 (as := []) (st := []) rfl rfl (Nat.le_of_ble_eq_true rfl) hh (fun r5 h4 hq => ?_)
    obtain ⟨v6, rfl, hh⟩ := sr_I_e hq
    show Sat X 67 [.ref p0, .int x1, .int x2, .int x3, Value.null, Value.null] [.int v6] h4
    refine ow_if_eq (tgt := 135) C dX7_readGate_67 (by decide) hh (fun hh => ?_) (fun hh => ?_)
    · skip
      exact Sat.mask (bl_X7_readGate_135 C Z p0 x2 h4 hh) (mk_y (mk_n (mk_y (mk_n (mk_n (mk_n mk_0))))))
    · skip
      refine ow_aload_n C dX7_readGate_70 rfl rfl ?_
      refine ow_getR (ci := 6) (k := 13) (T := TX7) C rfl igX7 (by decide) kw_624 dX7_readGate_71 hh (fun q7 hh => ?_)
      refine ow_iload_n C dX7_readGate_74 rfl rfl ?_
      refine ow_aload_n C dX7_readGate_75 rfl rfl ?_
      refine ow_iconst (v := 0) C dX7_readGate_76 rfl ?_
      refine ow_iload_n C dX7_readGate_77 rfl rfl ?_
      refine ow_iconst (v := 1) C dX7_readGate_78 rfl ?_
      refine ow_isub C dX7_readGate_79 ?_
      refine ow_callV C (cv_X7_digit _) (Nat.le_of_ble_eq_true rfl) kw_625 dX7_readGate_80 (as := [.int 0, .int (x1 - 1)]) (st := [.int x3, .ref q7]) rfl rfl (Nat.le_of_ble_eq_true rfl) hh (fun r9 h8 hq => ?_)
      obtain ⟨v10, rfl, hh⟩ := sr_I_e hq
      show Sat X 83 [.ref p0, .int x1, .int x2, .int x3, Value.null, Value.null] [.int v10, .int x3, .ref q7] h8
      refine ow_iastore C dX7_readGate_83 hh (fun h11 hh => ?_)
      refine ow_aload_n C dX7_readGate_84 rfl rfl ?_
      refine ow_getI (ci := 6) (k := 8) (T := TX7) C rfl igX7 (by decide) kw_596 dX7_readGate_85 hh (fun v12 hh => ?_)
      refine ow_iconst (v := 1) C dX7_readGate_88 rfl ?_
      refine ow_isub C dX7_readGate_89 ?_
      refine ow_istore (L' := [.ref p0, .int x1, .int x2, .int x3, .int (v12 - 1), Value.null]) C dX7_readGate_90 (by decide) rfl ?_
      refine ow_iconst (v := 0) C dX7_readGate_92 rfl ?_
      refine ow_istore (L' := [.ref p0, .int x1, .int x2, .int x3, .int (v12 - 1), .int 0]) C dX7_readGate_93 (by decide) rfl ?_
      exact Sat.mask hh (mk_y (mk_y (mk_y (mk_y (mk_y (mk_y mk_0))))))
def sm_X7_readGate_35 (K35 : Nat → Int32 → Int32 → Int32 → aw_H → Prop) (K55 : Nat → Int32 → Int32 → Int32 → aw_H → Prop) (K95 : Nat → Int32 → Int32 → Int32 → Int32 → Int32 → aw_H → Prop) (Q : aw_R) (p0 : Nat) (x1 : Int32) (x2 : Int32) (x3 : Int32) (h : aw_H) : Prop :=
  if 3 ≤ x3 then (K55 p0 x1 x2 0 h) else (sg_R h p0 6 13 fun q1 => ss_I h q1 x3 0 fun h2 => K35 p0 x1 x2 (x3 + 1) h2)
set_option maxRecDepth 100000 in
set_option maxHeartbeats 4000000 in
theorem bl_X7_readGate_35 {X : aw_X} {Q : aw_R} (C : aw_C X cX7_readGate RX7 6 3) (Z : aw_Z X cX7_readGate none Q) (p0 : Nat) (x1 : Int32) (x2 : Int32) (x3 : Int32) (h : aw_H) (hh : sm_X7_readGate_35 (fun (p0 : Nat) (x1 : Int32) (x2 : Int32) (x3 : Int32) (h : aw_H) => Sat X 35 [.ref p0, .int x1, .int x2, .int x3, Value.null, Value.null] [] h) (fun (p0 : Nat) (x1 : Int32) (x2 : Int32) (x3 : Int32) (h : aw_H) => Sat X 55 [.ref p0, .int x1, .int x2, .int x3, Value.null, Value.null] [] h) (fun (p0 : Nat) (x1 : Int32) (x2 : Int32) (x3 : Int32) (x4 : Int32) (x5 : Int32) (h : aw_H) => Sat X 95 [.ref p0, .int x1, .int x2, .int x3, .int x4, .int x5] [] h) Q p0 x1 x2 x3 h) : Sat X 35 [.ref p0, .int x1, .int x2, .int x3, Value.null, Value.null] [] h := by
  unfold sm_X7_readGate_35 at hh
  refine ow_iload_n C dX7_readGate_35 rfl rfl ?_
  refine ow_iconst (v := 3) C dX7_readGate_36 rfl ?_
  refine ow_icmp_ge (tgt := 53) C dX7_readGate_37 (by decide) hh (fun hh => ?_) (fun hh => ?_)
  · skip
    refine ow_iconst (v := 0) C dX7_readGate_53 rfl ?_
    refine ow_istore_n (L' := [.ref p0, .int x1, .int x2, .int 0, Value.null, Value.null]) C dX7_readGate_54 rfl (by decide) rfl ?_
    exact Sat.mask hh (mk_y (mk_y (mk_y (mk_y (mk_n (mk_n mk_0))))))
  · skip
    refine ow_aload_n C dX7_readGate_40 rfl rfl ?_
    refine ow_getR (ci := 6) (k := 13) (T := TX7) C rfl igX7 (by decide) kw_624 dX7_readGate_41 hh (fun q1 hh => ?_)
    refine ow_iload_n C dX7_readGate_44 rfl rfl ?_
    refine ow_iconst (v := 0) C dX7_readGate_45 rfl ?_
    refine ow_iastore C dX7_readGate_46 hh (fun h2 hh => ?_)
    refine ow_iinc (v := x3 + 1) (L' := [.ref p0, .int x1, .int x2, .int (x3 + 1), Value.null, Value.null]) C dX7_readGate_47 rfl rfl (by decide) rfl ?_
    refine ow_goto (tgt := 35) C dX7_readGate_50 (by decide) ?_
    exact Sat.mask hh (mk_y (mk_y (mk_y (mk_y (mk_n (mk_n mk_0))))))
def sm_X7_readGate_0 (K35 : Nat → Int32 → Int32 → Int32 → aw_H → Prop) (K55 : Nat → Int32 → Int32 → Int32 → aw_H → Prop) (K95 : Nat → Int32 → Int32 → Int32 → Int32 → Int32 → aw_H → Prop) (Q : aw_R) (p0 : Nat) (x1 : Int32) (h : aw_H) : Prop :=
  sv_O h p0 6 (tr_X7_here [.ref p0] h fun r2 h1 => sr_I r2 fun v3 => tr_X7_kindOf [.int v3] h1 fun r5 h4 => sr_I r5 fun v6 => if ¬ v6 = ((-4)) then (sg_I h4 p0 6 8 fun v7 => sp_I h4 p0 6 8 (v7 + 1) fun h8 => K35 p0 x1 v6 0 h8) else (sg_I h4 p0 6 8 fun v9 => sv_O h4 p0 6 (tr_X7_fault [.ref p0, .int v9] h4 fun r11 h10 => sr_V r11 <| Q none h10)))
set_option maxRecDepth 100000 in
set_option maxHeartbeats 4000000 in
theorem bl_X7_readGate_0 {X : aw_X} {Q : aw_R} (C : aw_C X cX7_readGate RX7 6 3) (Z : aw_Z X cX7_readGate none Q) (p0 : Nat) (x1 : Int32) (h : aw_H) (hh : sm_X7_readGate_0 (fun (p0 : Nat) (x1 : Int32) (x2 : Int32) (x3 : Int32) (h : aw_H) => Sat X 35 [.ref p0, .int x1, .int x2, .int x3, Value.null, Value.null] [] h) (fun (p0 : Nat) (x1 : Int32) (x2 : Int32) (x3 : Int32) (h : aw_H) => Sat X 55 [.ref p0, .int x1, .int x2, .int x3, Value.null, Value.null] [] h) (fun (p0 : Nat) (x1 : Int32) (x2 : Int32) (x3 : Int32) (x4 : Int32) (x5 : Int32) (h : aw_H) => Sat X 95 [.ref p0, .int x1, .int x2, .int x3, .int x4, .int x5] [] h) Q p0 x1 h) : Sat X 0 [.ref p0, .int x1, Value.null, Value.null, Value.null, Value.null] [] h := by
  unfold sm_X7_readGate_0 at hh
  refine ow_aload_n C dX7_readGate_0 rfl rfl ?_
  refine ow_callV C (cv_X7_here _) (Nat.le_of_ble_eq_true rfl) kw_608 dX7_readGate_1 (as := []) (st := []) rfl rfl (Nat.le_of_ble_eq_true rfl) hh (fun r2 h1 hq => ?_)
  obtain ⟨v3, rfl, hh⟩ := sr_I_e hq
  show Sat X 4 [.ref p0, .int x1, Value.null, Value.null, Value.null, Value.null] [.int v3] h1
  refine ow_callS C (cs_X7_kindOf _) (Nat.le_of_ble_eq_true rfl) kw_626 dX7_readGate_4 (as := [.int v3]) (st := []) rfl rfl (Nat.le_of_ble_eq_true rfl) hh (fun r5 h4 hq => ?_)
  obtain ⟨v6, rfl, hh⟩ := sr_I_e hq
  show Sat X 7 [.ref p0, .int x1, Value.null, Value.null, Value.null, Value.null] [.int v6] h4
  refine ow_istore_n (L' := [.ref p0, .int x1, .int v6, Value.null, Value.null, Value.null]) C dX7_readGate_7 rfl (by decide) rfl ?_
  refine ow_iload_n C dX7_readGate_8 rfl rfl ?_
  refine ow_bipush (v := (-4)) C dX7_readGate_9 rfl ?_
  refine ow_icmp_ne (tgt := 23) C dX7_readGate_11 (by decide) hh (fun hh => ?_) (fun hh => ?_)
  · skip
    refine ow_aload_n C dX7_readGate_23 rfl rfl ?_
    refine ow_dup C dX7_readGate_24 rfl ?_
    refine ow_getI (ci := 6) (k := 8) (T := TX7) C rfl igX7 (by decide) kw_596 dX7_readGate_25 hh (fun v7 hh => ?_)
    refine ow_iconst (v := 1) C dX7_readGate_28 rfl ?_
    refine ow_iadd C dX7_readGate_29 ?_
    refine ow_putI (ci := 6) (k := 8) (T := TX7) C rfl igX7 tyX7 tyX7_ok nmX7 (by decide) kw_596 rfl (by decide +kernel) dX7_readGate_30 hh (fun h8 hh => ?_)
    refine ow_iconst (v := 0) C dX7_readGate_33 rfl ?_
    refine ow_istore_n (L' := [.ref p0, .int x1, .int v6, .int 0, Value.null, Value.null]) C dX7_readGate_34 rfl (by decide) rfl ?_
    exact Sat.mask hh (mk_y (mk_y (mk_y (mk_y (mk_n (mk_n mk_0))))))
  · skip
    refine ow_aload_n C dX7_readGate_14 rfl rfl ?_
    refine ow_aload_n C dX7_readGate_15 rfl rfl ?_
    refine ow_getI (ci := 6) (k := 8) (T := TX7) C rfl igX7 (by decide) kw_596 dX7_readGate_16 hh (fun v9 hh => ?_)
    refine ow_callV C (cv_X7_fault _) (Nat.le_of_ble_eq_true rfl) kw_609 dX7_readGate_19 (as := [.int v9]) (st := []) rfl rfl (Nat.le_of_ble_eq_true rfl) hh (fun r11 h10 hq => ?_)
    obtain ⟨rfl, hh⟩ := sr_V_e hq
    show Sat X 22 [.ref p0, .int x1, .int v6, Value.null, Value.null, Value.null] [] h10
    exact ow_vret Z dX7_readGate_22 trivial hh
def tr_X7_readGate : aw_T := fun as h Q => ∃ (p0 : Nat) (x1 : Int32), as = [.ref p0, .int x1] ∧ (∀ (K35 : Nat → Int32 → Int32 → Int32 → aw_H → Prop) (K55 : Nat → Int32 → Int32 → Int32 → aw_H → Prop) (K95 : Nat → Int32 → Int32 → Int32 → Int32 → Int32 → aw_H → Prop), (∀ (p0 : Nat) (x1 : Int32) (x2 : Int32) (x3 : Int32) (h : aw_H), sm_X7_readGate_35 K35 K55 K95 Q p0 x1 x2 x3 h → K35 p0 x1 x2 x3 h) → (∀ (p0 : Nat) (x1 : Int32) (x2 : Int32) (x3 : Int32) (h : aw_H), sm_X7_readGate_55 K35 K55 K95 Q p0 x1 x2 x3 h → K55 p0 x1 x2 x3 h) → (∀ (p0 : Nat) (x1 : Int32) (x2 : Int32) (x3 : Int32) (x4 : Int32) (x5 : Int32) (h : aw_H), sm_X7_readGate_95 K35 K55 K95 Q p0 x1 x2 x3 x4 x5 h → K95 p0 x1 x2 x3 x4 x5 h) → sm_X7_readGate_0 K35 K55 K95 Q p0 x1 h)
theorem tq_X7_readGate {p0 : Nat} {x1 : Int32} {h : aw_H} {Q : aw_R} : tr_X7_readGate [.ref p0, .int x1] h Q ↔ (∀ (K35 : Nat → Int32 → Int32 → Int32 → aw_H → Prop) (K55 : Nat → Int32 → Int32 → Int32 → aw_H → Prop) (K95 : Nat → Int32 → Int32 → Int32 → Int32 → Int32 → aw_H → Prop), (∀ (p0 : Nat) (x1 : Int32) (x2 : Int32) (x3 : Int32) (h : aw_H), sm_X7_readGate_35 K35 K55 K95 Q p0 x1 x2 x3 h → K35 p0 x1 x2 x3 h) → (∀ (p0 : Nat) (x1 : Int32) (x2 : Int32) (x3 : Int32) (h : aw_H), sm_X7_readGate_55 K35 K55 K95 Q p0 x1 x2 x3 h → K55 p0 x1 x2 x3 h) → (∀ (p0 : Nat) (x1 : Int32) (x2 : Int32) (x3 : Int32) (x4 : Int32) (x5 : Int32) (h : aw_H), sm_X7_readGate_95 K35 K55 K95 Q p0 x1 x2 x3 x4 x5 h → K95 p0 x1 x2 x3 x4 x5 h) → sm_X7_readGate_0 K35 K55 K95 Q p0 x1 h) := by
  constructor
  · rintro ⟨_, _, as0, hh⟩
    cases as0
    exact hh
  · intro hh
    exact ⟨_, _, rfl, hh⟩
theorem ct_X7_readGate (E : aw_F) : CT E yX7_readGate cX7_readGate 6 none 3 tr_X7_readGate := by
  refine ct_of (by decide) ?_
  intro X Q as h hE C Z hG
  subst hE
  obtain ⟨p0, x1, rfl, hh⟩ := hG
  refine ⟨[.ref p0, .int x1, Value.null, Value.null, Value.null, Value.null], rfl, Nat.le_of_ble_eq_true rfl, ?_⟩
  exact bl_X7_readGate_0 C Z p0 x1 h (hh (fun (p0 : Nat) (x1 : Int32) (x2 : Int32) (x3 : Int32) (h : aw_H) => Sat X 35 [.ref p0, .int x1, .int x2, .int x3, Value.null, Value.null] [] h) (fun (p0 : Nat) (x1 : Int32) (x2 : Int32) (x3 : Int32) (h : aw_H) => Sat X 55 [.ref p0, .int x1, .int x2, .int x3, Value.null, Value.null] [] h) (fun (p0 : Nat) (x1 : Int32) (x2 : Int32) (x3 : Int32) (x4 : Int32) (x5 : Int32) (h : aw_H) => Sat X 95 [.ref p0, .int x1, .int x2, .int x3, .int x4, .int x5] [] h) (fun p0 x1 x2 x3 h hh => bl_X7_readGate_35 C Z p0 x1 x2 x3 h hh) (fun p0 x1 x2 x3 h hh => bl_X7_readGate_55 C Z p0 x1 x2 x3 h hh) (fun p0 x1 x2 x3 x4 x5 h hh => bl_X7_readGate_95 C Z p0 x1 x2 x3 x4 x5 h hh))
theorem cv_X7_readGate (E : aw_F) : CV E yX7_readGate cX7_readGate 6 none 3 1 6 tr_X7_readGate := ⟨ct_X7_readGate E, by decide, kw_628, kw_629, kw_527, kw_627, by decide +kernel, _, _, rfl⟩
theorem dX7_readWires_0 : decode cX7_readWires 0 = .ok (.aload_n 0, 1) := by decide +kernel
theorem dX7_readWires_1 : decode cX7_readWires 1 = .ok (.iconst 2, 1) := by decide +kernel
theorem dX7_readWires_2 : decode cX7_readWires 2 = .ok (.bipush 6, 2) := by decide +kernel
theorem dX7_readWires_4 : decode cX7_readWires 4 = .ok (.invokevirtual 112, 3) := by decide +kernel
theorem dX7_readWires_7 : decode cX7_readWires 7 = .ok (.istore_n 1, 1) := by decide +kernel
theorem dX7_readWires_8 : decode cX7_readWires 8 = .ok (.aload_n 0, 1) := by decide +kernel
theorem dX7_readWires_9 : decode cX7_readWires 9 = .ok (.invokevirtual 96, 3) := by decide +kernel
theorem dX7_readWires_12 : decode cX7_readWires 12 = .ok (.ifCond .eq 29, 3) := by decide +kernel
theorem dX7_readWires_15 : decode cX7_readWires 15 = .ok (.aload_n 0, 1) := by decide +kernel
theorem dX7_readWires_16 : decode cX7_readWires 16 = .ok (.invokevirtual 100, 3) := by decide +kernel
theorem dX7_readWires_19 : decode cX7_readWires 19 = .ok (.bipush 61, 2) := by decide +kernel
theorem dX7_readWires_21 : decode cX7_readWires 21 = .ok (.if_icmp .ne 20, 3) := by decide +kernel
theorem dX7_readWires_24 : decode cX7_readWires 24 = .ok (.aload_n 0, 1) := by decide +kernel
theorem dX7_readWires_25 : decode cX7_readWires 25 = .ok (.dup, 1) := by decide +kernel
theorem dX7_readWires_26 : decode cX7_readWires 26 = .ok (.getfield 90, 3) := by decide +kernel
theorem dX7_readWires_29 : decode cX7_readWires 29 = .ok (.iconst 1, 1) := by decide +kernel
theorem dX7_readWires_30 : decode cX7_readWires 30 = .ok (.iadd, 1) := by decide +kernel
theorem dX7_readWires_31 : decode cX7_readWires 31 = .ok (.putfield 90, 3) := by decide +kernel
theorem dX7_readWires_34 : decode cX7_readWires 34 = .ok (.aload_n 0, 1) := by decide +kernel
theorem dX7_readWires_35 : decode cX7_readWires 35 = .ok (.iconst 1, 1) := by decide +kernel
theorem dX7_readWires_36 : decode cX7_readWires 36 = .ok (.iload_n 1, 1) := by decide +kernel
theorem dX7_readWires_37 : decode cX7_readWires 37 = .ok (.ishl, 1) := by decide +kernel
theorem dX7_readWires_38 : decode cX7_readWires 38 = .ok (.invokevirtual 119, 3) := by decide +kernel
theorem dX7_readWires_41 : decode cX7_readWires 41 = .ok (.aload_n 0, 1) := by decide +kernel
theorem dX7_readWires_42 : decode cX7_readWires 42 = .ok (.invokevirtual 96, 3) := by decide +kernel
theorem dX7_readWires_45 : decode cX7_readWires 45 = .ok (.ifCond .eq 9, 3) := by decide +kernel
theorem dX7_readWires_48 : decode cX7_readWires 48 = .ok (.aload_n 0, 1) := by decide +kernel
theorem dX7_readWires_49 : decode cX7_readWires 49 = .ok (.bipush 58, 2) := by decide +kernel
theorem dX7_readWires_51 : decode cX7_readWires 51 = .ok (.invokevirtual 122, 3) := by decide +kernel
theorem dX7_readWires_54 : decode cX7_readWires 54 = .ok (.iload_n 1, 1) := by decide +kernel
theorem dX7_readWires_55 : decode cX7_readWires 55 = .ok (.ireturn, 1) := by decide +kernel
def sm_X7_readWires_41  (Q : aw_R) (p0 : Nat) (x1 : Int32) (h : aw_H) : Prop :=
  sv_O h p0 6 (tr_X7_fine [.ref p0] h fun r2 h1 => sr_I r2 fun v3 => if v3 = 0 then (Q (some (.int x1)) h1) else (sv_O h1 p0 6 (tr_X7_need [.ref p0, .int 58] h1 fun r5 h4 => sr_V r5 <| Q (some (.int x1)) h4)))
set_option maxRecDepth 100000 in
set_option maxHeartbeats 4000000 in
theorem bl_X7_readWires_41 {X : aw_X} {Q : aw_R} (C : aw_C X cX7_readWires RX7 2 3) (Z : aw_Z X cX7_readWires (some .int) Q) (p0 : Nat) (x1 : Int32) (h : aw_H) (hh : sm_X7_readWires_41  Q p0 x1 h) : Sat X 41 [.ref p0, .int x1] [] h := by
  unfold sm_X7_readWires_41 at hh
  refine ow_aload_n C dX7_readWires_41 rfl rfl ?_
  refine ow_callV C (cv_X7_fine _) (Nat.le_of_ble_eq_true rfl) kw_604 dX7_readWires_42 (as := []) (st := []) rfl rfl (Nat.le_of_ble_eq_true rfl) hh (fun r2 h1 hq => ?_)
  obtain ⟨v3, rfl, hh⟩ := sr_I_e hq
  show Sat X 45 [.ref p0, .int x1] [.int v3] h1
  refine ow_if_eq (tgt := 54) C dX7_readWires_45 (by decide) hh (fun hh => ?_) (fun hh => ?_)
  · skip
    refine ow_iload_n C dX7_readWires_54 rfl rfl ?_
    exact ow_iret Z dX7_readWires_55 trivial hh
  · skip
    refine ow_aload_n C dX7_readWires_48 rfl rfl ?_
    refine ow_bipush (v := 58) C dX7_readWires_49 rfl ?_
    refine ow_callV C (cv_X7_need _) (Nat.le_of_ble_eq_true rfl) kw_630 dX7_readWires_51 (as := [.int 58]) (st := []) rfl rfl (Nat.le_of_ble_eq_true rfl) hh (fun r5 h4 hq => ?_)
    obtain ⟨rfl, hh⟩ := sr_V_e hq
    show Sat X 54 [.ref p0, .int x1] [] h4
    refine ow_iload_n C dX7_readWires_54 rfl rfl ?_
    exact ow_iret Z dX7_readWires_55 trivial hh
def sm_X7_readWires_0  (Q : aw_R) (p0 : Nat) (h : aw_H) : Prop :=
  sv_O h p0 6 (tr_X7_digit [.ref p0, .int 2, .int 6] h fun r2 h1 => sr_I r2 fun v3 => sv_O h1 p0 6 (tr_X7_fine [.ref p0] h1 fun r5 h4 => sr_I r5 fun v6 => if v6 = 0 then (sm_X7_readWires_41  Q p0 v3 h4) else (sv_O h4 p0 6 (tr_X7_here [.ref p0] h4 fun r8 h7 => sr_I r8 fun v9 => if ¬ v9 = 61 then (sm_X7_readWires_41  Q p0 v3 h7) else (sg_I h7 p0 6 8 fun v10 => sp_I h7 p0 6 8 (v10 + 1) fun h11 => sv_O h11 p0 6 (tr_X7_readState [.ref p0, .int ((1 : Int32) <<< (v3 &&& 31))] h11 fun r13 h12 => sr_V r13 <| sm_X7_readWires_41  Q p0 v3 h12))))))
set_option maxRecDepth 100000 in
set_option maxHeartbeats 4000000 in
theorem bl_X7_readWires_0 {X : aw_X} {Q : aw_R} (C : aw_C X cX7_readWires RX7 2 3) (Z : aw_Z X cX7_readWires (some .int) Q) (p0 : Nat) (h : aw_H) (hh : sm_X7_readWires_0  Q p0 h) : Sat X 0 [.ref p0, Value.null] [] h := by
  unfold sm_X7_readWires_0 at hh
  refine ow_aload_n C dX7_readWires_0 rfl rfl ?_
  refine ow_iconst (v := 2) C dX7_readWires_1 rfl ?_
  refine ow_bipush (v := 6) C dX7_readWires_2 rfl ?_
  refine ow_callV C (cv_X7_digit _) (Nat.le_of_ble_eq_true rfl) kw_625 dX7_readWires_4 (as := [.int 2, .int 6]) (st := []) rfl rfl (Nat.le_of_ble_eq_true rfl) hh (fun r2 h1 hq => ?_)
  obtain ⟨v3, rfl, hh⟩ := sr_I_e hq
  show Sat X 7 [.ref p0, Value.null] [.int v3] h1
  refine ow_istore_n (L' := [.ref p0, .int v3]) C dX7_readWires_7 rfl (by decide) rfl ?_
  refine ow_aload_n C dX7_readWires_8 rfl rfl ?_
  refine ow_callV C (cv_X7_fine _) (Nat.le_of_ble_eq_true rfl) kw_604 dX7_readWires_9 (as := []) (st := []) rfl rfl (Nat.le_of_ble_eq_true rfl) hh (fun r5 h4 hq => ?_)
  obtain ⟨v6, rfl, hh⟩ := sr_I_e hq
  show Sat X 12 [.ref p0, .int v3] [.int v6] h4
  refine ow_if_eq (tgt := 41) C dX7_readWires_12 (by decide) hh (fun hh => ?_) (fun hh => ?_)
  · skip
    exact Sat.mask (bl_X7_readWires_41 C Z p0 v3 h4 hh) (mk_y (mk_y mk_0))
  · skip
    refine ow_aload_n C dX7_readWires_15 rfl rfl ?_
    refine ow_callV C (cv_X7_here _) (Nat.le_of_ble_eq_true rfl) kw_608 dX7_readWires_16 (as := []) (st := []) rfl rfl (Nat.le_of_ble_eq_true rfl) hh (fun r8 h7 hq => ?_)
    obtain ⟨v9, rfl, hh⟩ := sr_I_e hq
    show Sat X 19 [.ref p0, .int v3] [.int v9] h7
    refine ow_bipush (v := 61) C dX7_readWires_19 rfl ?_
    refine ow_icmp_ne (tgt := 41) C dX7_readWires_21 (by decide) hh (fun hh => ?_) (fun hh => ?_)
    · skip
      exact Sat.mask (bl_X7_readWires_41 C Z p0 v3 h7 hh) (mk_y (mk_y mk_0))
    · skip
      refine ow_aload_n C dX7_readWires_24 rfl rfl ?_
      refine ow_dup C dX7_readWires_25 rfl ?_
      refine ow_getI (ci := 6) (k := 8) (T := TX7) C rfl igX7 (by decide) kw_596 dX7_readWires_26 hh (fun v10 hh => ?_)
      refine ow_iconst (v := 1) C dX7_readWires_29 rfl ?_
      refine ow_iadd C dX7_readWires_30 ?_
      refine ow_putI (ci := 6) (k := 8) (T := TX7) C rfl igX7 tyX7 tyX7_ok nmX7 (by decide) kw_596 rfl (by decide +kernel) dX7_readWires_31 hh (fun h11 hh => ?_)
      refine ow_aload_n C dX7_readWires_34 rfl rfl ?_
      refine ow_iconst (v := 1) C dX7_readWires_35 rfl ?_
      refine ow_iload_n C dX7_readWires_36 rfl rfl ?_
      refine ow_ishl C dX7_readWires_37 ?_
      refine ow_callV C (cv_X7_readState _) (Nat.le_of_ble_eq_true rfl) kw_631 dX7_readWires_38 (as := [.int ((1 : Int32) <<< (v3 &&& 31))]) (st := []) rfl rfl (Nat.le_of_ble_eq_true rfl) hh (fun r13 h12 hq => ?_)
      obtain ⟨rfl, hh⟩ := sr_V_e hq
      show Sat X 41 [.ref p0, .int v3] [] h12
      exact Sat.mask (bl_X7_readWires_41 C Z p0 v3 h12 hh) (mk_y (mk_y mk_0))
def tr_X7_readWires : aw_T := fun as h Q => ∃ (p0 : Nat), as = [.ref p0] ∧ (sm_X7_readWires_0  Q p0 h)
theorem tq_X7_readWires {p0 : Nat} {h : aw_H} {Q : aw_R} : tr_X7_readWires [.ref p0] h Q ↔ (sm_X7_readWires_0  Q p0 h) := by
  constructor
  · rintro ⟨_, as0, hh⟩
    cases as0
    exact hh
  · intro hh
    exact ⟨_, rfl, hh⟩
theorem ct_X7_readWires (E : aw_F) : CT E yX7_readWires cX7_readWires 2 (some .int) 3 tr_X7_readWires := by
  refine ct_of (by decide) ?_
  intro X Q as h hE C Z hG
  subst hE
  obtain ⟨p0, rfl, hh⟩ := hG
  refine ⟨[.ref p0, Value.null], rfl, Nat.le_of_ble_eq_true rfl, ?_⟩
  exact bl_X7_readWires_0 C Z p0 h hh
theorem cv_X7_readWires (E : aw_F) : CV E yX7_readWires cX7_readWires 2 (some .int) 3 0 6 tr_X7_readWires := ⟨ct_X7_readWires E, by decide, kw_633, kw_634, kw_527, kw_632, by decide +kernel, _, _, rfl⟩
theorem dX7_readGates_0 : decode cX7_readGates 0 = .ok (.aload_n 0, 1) := by decide +kernel
theorem dX7_readGates_1 : decode cX7_readGates 1 = .ok (.invokevirtual 96, 3) := by decide +kernel
theorem dX7_readGates_4 : decode cX7_readGates 4 = .ok (.ifCond .eq 14, 3) := by decide +kernel
theorem dX7_readGates_7 : decode cX7_readGates 7 = .ok (.aload_n 0, 1) := by decide +kernel
theorem dX7_readGates_8 : decode cX7_readGates 8 = .ok (.invokevirtual 100, 3) := by decide +kernel
theorem dX7_readGates_11 : decode cX7_readGates 11 = .ok (.ifCond .eq 7, 3) := by decide +kernel
theorem dX7_readGates_14 : decode cX7_readGates 14 = .ok (.iconst 1, 1) := by decide +kernel
theorem dX7_readGates_15 : decode cX7_readGates 15 = .ok (.goto 4, 3) := by decide +kernel
theorem dX7_readGates_18 : decode cX7_readGates 18 = .ok (.iconst 0, 1) := by decide +kernel
theorem dX7_readGates_19 : decode cX7_readGates 19 = .ok (.istore_n 2, 1) := by decide +kernel
theorem dX7_readGates_20 : decode cX7_readGates 20 = .ok (.iload_n 2, 1) := by decide +kernel
theorem dX7_readGates_21 : decode cX7_readGates 21 = .ok (.ifCond .eq 76, 3) := by decide +kernel
theorem dX7_readGates_24 : decode cX7_readGates 24 = .ok (.aload_n 0, 1) := by decide +kernel
theorem dX7_readGates_25 : decode cX7_readGates 25 = .ok (.iload_n 1, 1) := by decide +kernel
theorem dX7_readGates_26 : decode cX7_readGates 26 = .ok (.invokevirtual 125, 3) := by decide +kernel
theorem dX7_readGates_29 : decode cX7_readGates 29 = .ok (.aload_n 0, 1) := by decide +kernel
theorem dX7_readGates_30 : decode cX7_readGates 30 = .ok (.invokevirtual 96, 3) := by decide +kernel
theorem dX7_readGates_33 : decode cX7_readGates 33 = .ok (.ifCond .eq 14, 3) := by decide +kernel
theorem dX7_readGates_36 : decode cX7_readGates 36 = .ok (.aload_n 0, 1) := by decide +kernel
theorem dX7_readGates_37 : decode cX7_readGates 37 = .ok (.invokevirtual 100, 3) := by decide +kernel
theorem dX7_readGates_40 : decode cX7_readGates 40 = .ok (.ifCond .eq 7, 3) := by decide +kernel
theorem dX7_readGates_43 : decode cX7_readGates 43 = .ok (.iconst 1, 1) := by decide +kernel
theorem dX7_readGates_44 : decode cX7_readGates 44 = .ok (.goto 4, 3) := by decide +kernel
theorem dX7_readGates_47 : decode cX7_readGates 47 = .ok (.iconst 0, 1) := by decide +kernel
theorem dX7_readGates_48 : decode cX7_readGates 48 = .ok (.istore_n 2, 1) := by decide +kernel
theorem dX7_readGates_49 : decode cX7_readGates 49 = .ok (.iload_n 2, 1) := by decide +kernel
theorem dX7_readGates_50 : decode cX7_readGates 50 = .ok (.ifCond .eq (-30), 3) := by decide +kernel
theorem dX7_readGates_53 : decode cX7_readGates 53 = .ok (.aload_n 0, 1) := by decide +kernel
theorem dX7_readGates_54 : decode cX7_readGates 54 = .ok (.invokevirtual 100, 3) := by decide +kernel
theorem dX7_readGates_57 : decode cX7_readGates 57 = .ok (.bipush 44, 2) := by decide +kernel
theorem dX7_readGates_59 : decode cX7_readGates 59 = .ok (.if_icmp .ne 12, 3) := by decide +kernel
theorem dX7_readGates_62 : decode cX7_readGates 62 = .ok (.aload_n 0, 1) := by decide +kernel
theorem dX7_readGates_63 : decode cX7_readGates 63 = .ok (.getfield 116, 3) := by decide +kernel
theorem dX7_readGates_66 : decode cX7_readGates 66 = .ok (.bipush 16, 2) := by decide +kernel
theorem dX7_readGates_68 : decode cX7_readGates 68 = .ok (.if_icmp .ne 11, 3) := by decide +kernel
theorem dX7_readGates_71 : decode cX7_readGates 71 = .ok (.aload_n 0, 1) := by decide +kernel
theorem dX7_readGates_72 : decode cX7_readGates 72 = .ok (.aload_n 0, 1) := by decide +kernel
theorem dX7_readGates_73 : decode cX7_readGates 73 = .ok (.getfield 90, 3) := by decide +kernel
theorem dX7_readGates_76 : decode cX7_readGates 76 = .ok (.invokevirtual 103, 3) := by decide +kernel
theorem dX7_readGates_79 : decode cX7_readGates 79 = .ok (.aload_n 0, 1) := by decide +kernel
theorem dX7_readGates_80 : decode cX7_readGates 80 = .ok (.dup, 1) := by decide +kernel
theorem dX7_readGates_81 : decode cX7_readGates 81 = .ok (.getfield 90, 3) := by decide +kernel
theorem dX7_readGates_84 : decode cX7_readGates 84 = .ok (.iconst 1, 1) := by decide +kernel
theorem dX7_readGates_85 : decode cX7_readGates 85 = .ok (.iadd, 1) := by decide +kernel
theorem dX7_readGates_86 : decode cX7_readGates 86 = .ok (.putfield 90, 3) := by decide +kernel
theorem dX7_readGates_89 : decode cX7_readGates 89 = .ok (.aload_n 0, 1) := by decide +kernel
theorem dX7_readGates_90 : decode cX7_readGates 90 = .ok (.invokevirtual 96, 3) := by decide +kernel
theorem dX7_readGates_93 : decode cX7_readGates 93 = .ok (.istore_n 2, 1) := by decide +kernel
theorem dX7_readGates_94 : decode cX7_readGates 94 = .ok (.goto (-74), 3) := by decide +kernel
theorem dX7_readGates_97 : decode cX7_readGates 97 = .ok (.return_, 1) := by decide +kernel
def sm_X7_readGates_48 (K20 : Nat → Int32 → Int32 → aw_H → Prop) (Q : aw_R) (p0 : Nat) (x1 : Int32) (xs0 : Int32) (h : aw_H) : Prop :=
  if xs0 = 0 then (K20 p0 x1 xs0 h) else (sv_O h p0 6 (tr_X7_here [.ref p0] h fun r2 h1 => sr_I r2 fun v3 => if ¬ v3 = 44 then (sg_I h1 p0 6 8 fun v4 => sv_O h1 p0 6 (tr_X7_fault [.ref p0, .int v4] h1 fun r6 h5 => sr_V r6 <| sg_I h5 p0 6 8 fun v7 => sp_I h5 p0 6 8 (v7 + 1) fun h8 => sv_O h8 p0 6 (tr_X7_fine [.ref p0] h8 fun r10 h9 => sr_I r10 fun v11 => K20 p0 x1 v11 h9))) else (sg_I h1 p0 6 11 fun v12 => if ¬ v12 = 16 then (sg_I h1 p0 6 8 fun v13 => sp_I h1 p0 6 8 (v13 + 1) fun h14 => sv_O h14 p0 6 (tr_X7_fine [.ref p0] h14 fun r16 h15 => sr_I r16 fun v17 => K20 p0 x1 v17 h15)) else (sg_I h1 p0 6 8 fun v18 => sv_O h1 p0 6 (tr_X7_fault [.ref p0, .int v18] h1 fun r20 h19 => sr_V r20 <| sg_I h19 p0 6 8 fun v21 => sp_I h19 p0 6 8 (v21 + 1) fun h22 => sv_O h22 p0 6 (tr_X7_fine [.ref p0] h22 fun r24 h23 => sr_I r24 fun v25 => K20 p0 x1 v25 h23))))))
set_option maxRecDepth 100000 in
set_option maxHeartbeats 4000000 in
theorem bl_X7_readGates_48 {X : aw_X} {Q : aw_R} (C : aw_C X cX7_readGates RX7 3 4) (Z : aw_Z X cX7_readGates none Q) (p0 : Nat) (x1 : Int32) (xs0 : Int32) (h : aw_H) (hh : sm_X7_readGates_48 (fun (p0 : Nat) (x1 : Int32) (x2 : Int32) (h : aw_H) => Sat X 20 [.ref p0, .int x1, .int x2] [] h) Q p0 x1 xs0 h) : Sat X 48 [.ref p0, .int x1, Value.null] [.int xs0] h := by
  unfold sm_X7_readGates_48 at hh
  refine ow_istore_n (L' := [.ref p0, .int x1, .int xs0]) C dX7_readGates_48 rfl (by decide) rfl ?_
  refine ow_iload_n C dX7_readGates_49 rfl rfl ?_
  refine ow_if_eq (tgt := 20) C dX7_readGates_50 (by decide) hh (fun hh => ?_) (fun hh => ?_)
  · skip
    exact Sat.mask hh (mk_y (mk_y (mk_y mk_0)))
  · skip
    refine ow_aload_n C dX7_readGates_53 rfl rfl ?_
    refine ow_callV C (cv_X7_here _) (Nat.le_of_ble_eq_true rfl) kw_608 dX7_readGates_54 (as := []) (st := []) rfl rfl (Nat.le_of_ble_eq_true rfl) hh (fun r2 h1 hq => ?_)
    obtain ⟨v3, rfl, hh⟩ := sr_I_e hq
    show Sat X 57 [.ref p0, .int x1, .int xs0] [.int v3] h1
    refine ow_bipush (v := 44) C dX7_readGates_57 rfl ?_
    refine ow_icmp_ne (tgt := 71) C dX7_readGates_59 (by decide) hh (fun hh => ?_) (fun hh => ?_)
    · skip
      refine ow_aload_n C dX7_readGates_71 rfl rfl ?_
      refine ow_aload_n C dX7_readGates_72 rfl rfl ?_
      refine ow_getI (ci := 6) (k := 8) (T := TX7) C rfl igX7 (by decide) kw_596 dX7_readGates_73 hh (fun v4 hh => ?_)
      refine ow_callV C (cv_X7_fault _) (Nat.le_of_ble_eq_true rfl) kw_609 dX7_readGates_76 (as := [.int v4]) (st := []) rfl rfl (Nat.le_of_ble_eq_true rfl) hh (fun r6 h5 hq => ?_)
      obtain ⟨rfl, hh⟩ := sr_V_e hq
      show Sat X 79 [.ref p0, .int x1, .int xs0] [] h5
      refine ow_aload_n C dX7_readGates_79 rfl rfl ?_
      refine ow_dup C dX7_readGates_80 rfl ?_
      refine ow_getI (ci := 6) (k := 8) (T := TX7) C rfl igX7 (by decide) kw_596 dX7_readGates_81 hh (fun v7 hh => ?_)
      refine ow_iconst (v := 1) C dX7_readGates_84 rfl ?_
      refine ow_iadd C dX7_readGates_85 ?_
      refine ow_putI (ci := 6) (k := 8) (T := TX7) C rfl igX7 tyX7 tyX7_ok nmX7 (by decide) kw_596 rfl (by decide +kernel) dX7_readGates_86 hh (fun h8 hh => ?_)
      refine ow_aload_n C dX7_readGates_89 rfl rfl ?_
      refine ow_callV C (cv_X7_fine _) (Nat.le_of_ble_eq_true rfl) kw_604 dX7_readGates_90 (as := []) (st := []) rfl rfl (Nat.le_of_ble_eq_true rfl) hh (fun r10 h9 hq => ?_)
      obtain ⟨v11, rfl, hh⟩ := sr_I_e hq
      show Sat X 93 [.ref p0, .int x1, .int xs0] [.int v11] h9
      refine ow_istore_n (L' := [.ref p0, .int x1, .int v11]) C dX7_readGates_93 rfl (by decide) rfl ?_
      refine ow_goto (tgt := 20) C dX7_readGates_94 (by decide) ?_
      exact Sat.mask hh (mk_y (mk_y (mk_y mk_0)))
    · skip
      refine ow_aload_n C dX7_readGates_62 rfl rfl ?_
      refine ow_getI (ci := 6) (k := 11) (T := TX7) C rfl igX7 (by decide) kw_623 dX7_readGates_63 hh (fun v12 hh => ?_)
      refine ow_bipush (v := 16) C dX7_readGates_66 rfl ?_
      refine ow_icmp_ne (tgt := 79) C dX7_readGates_68 (by decide) hh (fun hh => ?_) (fun hh => ?_)
      · skip
        refine ow_aload_n C dX7_readGates_79 rfl rfl ?_
        refine ow_dup C dX7_readGates_80 rfl ?_
        refine ow_getI (ci := 6) (k := 8) (T := TX7) C rfl igX7 (by decide) kw_596 dX7_readGates_81 hh (fun v13 hh => ?_)
        refine ow_iconst (v := 1) C dX7_readGates_84 rfl ?_
        refine ow_iadd C dX7_readGates_85 ?_
        refine ow_putI (ci := 6) (k := 8) (T := TX7) C rfl igX7 tyX7 tyX7_ok nmX7 (by decide) kw_596 rfl (by decide +kernel) dX7_readGates_86 hh (fun h14 hh => ?_)
        refine ow_aload_n C dX7_readGates_89 rfl rfl ?_
        refine ow_callV C (cv_X7_fine _) (Nat.le_of_ble_eq_true rfl) kw_604 dX7_readGates_90 (as := []) (st := []) rfl rfl (Nat.le_of_ble_eq_true rfl) hh (fun r16 h15 hq => ?_)
        obtain ⟨v17, rfl, hh⟩ := sr_I_e hq
        show Sat X 93 [.ref p0, .int x1, .int xs0] [.int v17] h15
        refine ow_istore_n (L' := [.ref p0, .int x1, .int v17]) C dX7_readGates_93 rfl (by decide) rfl ?_
        refine ow_goto (tgt := 20) C dX7_readGates_94 (by decide) ?_
        exact Sat.mask hh (mk_y (mk_y (mk_y mk_0)))
      · skip
        refine ow_aload_n C dX7_readGates_71 rfl rfl ?_
        refine ow_aload_n C dX7_readGates_72 rfl rfl ?_
        refine ow_getI (ci := 6) (k := 8) (T := TX7) C rfl igX7 (by decide) kw_596 dX7_readGates_73 hh (fun v18 hh => ?_)
        refine ow_callV C (cv_X7_fault _) (Nat.le_of_ble_eq_true rfl) kw_609 dX7_readGates_76 (as := [.int v18]) (st := []) rfl rfl (Nat.le_of_ble_eq_true rfl) hh (fun r20 h19 hq => ?_)
        obtain ⟨rfl, hh⟩ := sr_V_e hq
        show Sat X 79 [.ref p0, .int x1, .int xs0] [] h19
        refine ow_aload_n C dX7_readGates_79 rfl rfl ?_
        refine ow_dup C dX7_readGates_80 rfl ?_
        refine ow_getI (ci := 6) (k := 8) (T := TX7) C rfl igX7 (by decide) kw_596 dX7_readGates_81 hh (fun v21 hh => ?_)
        refine ow_iconst (v := 1) C dX7_readGates_84 rfl ?_
        refine ow_iadd C dX7_readGates_85 ?_
        refine ow_putI (ci := 6) (k := 8) (T := TX7) C rfl igX7 tyX7 tyX7_ok nmX7 (by decide) kw_596 rfl (by decide +kernel) dX7_readGates_86 hh (fun h22 hh => ?_)
        refine ow_aload_n C dX7_readGates_89 rfl rfl ?_
        refine ow_callV C (cv_X7_fine _) (Nat.le_of_ble_eq_true rfl) kw_604 dX7_readGates_90 (as := []) (st := []) rfl rfl (Nat.le_of_ble_eq_true rfl) hh (fun r24 h23 hq => ?_)
        obtain ⟨v25, rfl, hh⟩ := sr_I_e hq
        show Sat X 93 [.ref p0, .int x1, .int xs0] [.int v25] h23
        refine ow_istore_n (L' := [.ref p0, .int x1, .int v25]) C dX7_readGates_93 rfl (by decide) rfl ?_
        refine ow_goto (tgt := 20) C dX7_readGates_94 (by decide) ?_
        exact Sat.mask hh (mk_y (mk_y (mk_y mk_0)))
def sm_X7_readGates_20 (K20 : Nat → Int32 → Int32 → aw_H → Prop) (Q : aw_R) (p0 : Nat) (x1 : Int32) (x2 : Int32) (h : aw_H) : Prop :=
  if x2 = 0 then (Q none h) else (sv_O h p0 6 (tr_X7_readGate [.ref p0, .int x1] h fun r2 h1 => sr_V r2 <| sv_O h1 p0 6 (tr_X7_fine [.ref p0] h1 fun r4 h3 => sr_I r4 fun v5 => if v5 = 0 then (sm_X7_readGates_48 K20 Q p0 x1 0 h3) else (sv_O h3 p0 6 (tr_X7_here [.ref p0] h3 fun r7 h6 => sr_I r7 fun v8 => if v8 = 0 then (sm_X7_readGates_48 K20 Q p0 x1 0 h6) else (sm_X7_readGates_48 K20 Q p0 x1 1 h6))))))
set_option maxRecDepth 100000 in
set_option maxHeartbeats 4000000 in
theorem bl_X7_readGates_20 {X : aw_X} {Q : aw_R} (C : aw_C X cX7_readGates RX7 3 4) (Z : aw_Z X cX7_readGates none Q) (p0 : Nat) (x1 : Int32) (x2 : Int32) (h : aw_H) (hh : sm_X7_readGates_20 (fun (p0 : Nat) (x1 : Int32) (x2 : Int32) (h : aw_H) => Sat X 20 [.ref p0, .int x1, .int x2] [] h) Q p0 x1 x2 h) : Sat X 20 [.ref p0, .int x1, .int x2] [] h := by
  unfold sm_X7_readGates_20 at hh
  refine ow_iload_n C dX7_readGates_20 rfl rfl ?_
  refine ow_if_eq (tgt := 97) C dX7_readGates_21 (by decide) hh (fun hh => ?_) (fun hh => ?_)
  · skip
    exact ow_vret Z dX7_readGates_97 trivial hh
  · skip
    refine ow_aload_n C dX7_readGates_24 rfl rfl ?_
    refine ow_iload_n C dX7_readGates_25 rfl rfl ?_
    refine ow_callV C (cv_X7_readGate _) (Nat.le_of_ble_eq_true rfl) kw_635 dX7_readGates_26 (as := [.int x1]) (st := []) rfl rfl (Nat.le_of_ble_eq_true rfl) hh (fun r2 h1 hq => ?_)
    obtain ⟨rfl, hh⟩ := sr_V_e hq
    show Sat X 29 [.ref p0, .int x1, .int x2] [] h1
    refine ow_aload_n C dX7_readGates_29 rfl rfl ?_
    refine ow_callV C (cv_X7_fine _) (Nat.le_of_ble_eq_true rfl) kw_604 dX7_readGates_30 (as := []) (st := []) rfl rfl (Nat.le_of_ble_eq_true rfl) hh (fun r4 h3 hq => ?_)
    obtain ⟨v5, rfl, hh⟩ := sr_I_e hq
    show Sat X 33 [.ref p0, .int x1, .int x2] [.int v5] h3
    refine ow_if_eq (tgt := 47) C dX7_readGates_33 (by decide) hh (fun hh => ?_) (fun hh => ?_)
    · skip
      refine ow_iconst (v := 0) C dX7_readGates_47 rfl ?_
      exact Sat.mask (bl_X7_readGates_48 C Z p0 x1 0 h3 hh) (mk_y (mk_y (mk_n mk_0)))
    · skip
      refine ow_aload_n C dX7_readGates_36 rfl rfl ?_
      refine ow_callV C (cv_X7_here _) (Nat.le_of_ble_eq_true rfl) kw_608 dX7_readGates_37 (as := []) (st := []) rfl rfl (Nat.le_of_ble_eq_true rfl) hh (fun r7 h6 hq => ?_)
      obtain ⟨v8, rfl, hh⟩ := sr_I_e hq
      show Sat X 40 [.ref p0, .int x1, .int x2] [.int v8] h6
      refine ow_if_eq (tgt := 47) C dX7_readGates_40 (by decide) hh (fun hh => ?_) (fun hh => ?_)
      · skip
        refine ow_iconst (v := 0) C dX7_readGates_47 rfl ?_
        exact Sat.mask (bl_X7_readGates_48 C Z p0 x1 0 h6 hh) (mk_y (mk_y (mk_n mk_0)))
      · skip
        refine ow_iconst (v := 1) C dX7_readGates_43 rfl ?_
        refine ow_goto (tgt := 48) C dX7_readGates_44 (by decide) ?_
        exact Sat.mask (bl_X7_readGates_48 C Z p0 x1 1 h6 hh) (mk_y (mk_y (mk_n mk_0)))
def sm_X7_readGates_0 (K20 : Nat → Int32 → Int32 → aw_H → Prop) (Q : aw_R) (p0 : Nat) (x1 : Int32) (h : aw_H) : Prop :=
  sv_O h p0 6 (tr_X7_fine [.ref p0] h fun r2 h1 => sr_I r2 fun v3 => if v3 = 0 then (K20 p0 x1 0 h1) else (sv_O h1 p0 6 (tr_X7_here [.ref p0] h1 fun r5 h4 => sr_I r5 fun v6 => if v6 = 0 then (K20 p0 x1 0 h4) else (K20 p0 x1 1 h4))))
set_option maxRecDepth 100000 in
set_option maxHeartbeats 4000000 in
theorem bl_X7_readGates_0 {X : aw_X} {Q : aw_R} (C : aw_C X cX7_readGates RX7 3 4) (Z : aw_Z X cX7_readGates none Q) (p0 : Nat) (x1 : Int32) (h : aw_H) (hh : sm_X7_readGates_0 (fun (p0 : Nat) (x1 : Int32) (x2 : Int32) (h : aw_H) => Sat X 20 [.ref p0, .int x1, .int x2] [] h) Q p0 x1 h) : Sat X 0 [.ref p0, .int x1, Value.null] [] h := by
  unfold sm_X7_readGates_0 at hh
  refine ow_aload_n C dX7_readGates_0 rfl rfl ?_
  refine ow_callV C (cv_X7_fine _) (Nat.le_of_ble_eq_true rfl) kw_604 dX7_readGates_1 (as := []) (st := []) rfl rfl (Nat.le_of_ble_eq_true rfl) hh (fun r2 h1 hq => ?_)
  obtain ⟨v3, rfl, hh⟩ := sr_I_e hq
  show Sat X 4 [.ref p0, .int x1, Value.null] [.int v3] h1
  refine ow_if_eq (tgt := 18) C dX7_readGates_4 (by decide) hh (fun hh => ?_) (fun hh => ?_)
  · skip
    refine ow_iconst (v := 0) C dX7_readGates_18 rfl ?_
    refine ow_istore_n (L' := [.ref p0, .int x1, .int 0]) C dX7_readGates_19 rfl (by decide) rfl ?_
    exact Sat.mask hh (mk_y (mk_y (mk_y mk_0)))
  · skip
    refine ow_aload_n C dX7_readGates_7 rfl rfl ?_
    refine ow_callV C (cv_X7_here _) (Nat.le_of_ble_eq_true rfl) kw_608 dX7_readGates_8 (as := []) (st := []) rfl rfl (Nat.le_of_ble_eq_true rfl) hh (fun r5 h4 hq => ?_)
    obtain ⟨v6, rfl, hh⟩ := sr_I_e hq
    show Sat X 11 [.ref p0, .int x1, Value.null] [.int v6] h4
    refine ow_if_eq (tgt := 18) C dX7_readGates_11 (by decide) hh (fun hh => ?_) (fun hh => ?_)
    · skip
      refine ow_iconst (v := 0) C dX7_readGates_18 rfl ?_
      refine ow_istore_n (L' := [.ref p0, .int x1, .int 0]) C dX7_readGates_19 rfl (by decide) rfl ?_
      exact Sat.mask hh (mk_y (mk_y (mk_y mk_0)))
    · skip
      refine ow_iconst (v := 1) C dX7_readGates_14 rfl ?_
      refine ow_goto (tgt := 19) C dX7_readGates_15 (by decide) ?_
      refine ow_istore_n (L' := [.ref p0, .int x1, .int 1]) C dX7_readGates_19 rfl (by decide) rfl ?_
      exact Sat.mask hh (mk_y (mk_y (mk_y mk_0)))
def tr_X7_readGates : aw_T := fun as h Q => ∃ (p0 : Nat) (x1 : Int32), as = [.ref p0, .int x1] ∧ (∀ (K20 : Nat → Int32 → Int32 → aw_H → Prop), (∀ (p0 : Nat) (x1 : Int32) (x2 : Int32) (h : aw_H), sm_X7_readGates_20 K20 Q p0 x1 x2 h → K20 p0 x1 x2 h) → sm_X7_readGates_0 K20 Q p0 x1 h)
theorem tq_X7_readGates {p0 : Nat} {x1 : Int32} {h : aw_H} {Q : aw_R} : tr_X7_readGates [.ref p0, .int x1] h Q ↔ (∀ (K20 : Nat → Int32 → Int32 → aw_H → Prop), (∀ (p0 : Nat) (x1 : Int32) (x2 : Int32) (h : aw_H), sm_X7_readGates_20 K20 Q p0 x1 x2 h → K20 p0 x1 x2 h) → sm_X7_readGates_0 K20 Q p0 x1 h) := by
  constructor
  · rintro ⟨_, _, as0, hh⟩
    cases as0
    exact hh
  · intro hh
    exact ⟨_, _, rfl, hh⟩
theorem ct_X7_readGates (E : aw_F) : CT E yX7_readGates cX7_readGates 3 none 4 tr_X7_readGates := by
  refine ct_of (by decide) ?_
  intro X Q as h hE C Z hG
  subst hE
  obtain ⟨p0, x1, rfl, hh⟩ := hG
  refine ⟨[.ref p0, .int x1, Value.null], rfl, Nat.le_of_ble_eq_true rfl, ?_⟩
  exact bl_X7_readGates_0 C Z p0 x1 h (hh (fun (p0 : Nat) (x1 : Int32) (x2 : Int32) (h : aw_H) => Sat X 20 [.ref p0, .int x1, .int x2] [] h) (fun p0 x1 x2 h hh => bl_X7_readGates_20 C Z p0 x1 x2 h hh))
theorem cv_X7_readGates (E : aw_F) : CV E yX7_readGates cX7_readGates 3 none 4 1 6 tr_X7_readGates := ⟨ct_X7_readGates E, by decide, kw_637, kw_638, kw_527, kw_636, by decide +kernel, _, _, rfl⟩
theorem dX7_circuit_0 : decode cX7_circuit 0 = .ok (.aload_n 0, 1) := by decide +kernel
theorem dX7_circuit_1 : decode cX7_circuit 1 = .ok (.iconst 0, 1) := by decide +kernel
theorem dX7_circuit_2 : decode cX7_circuit 2 = .ok (.putfield 90, 3) := by decide +kernel
theorem dX7_circuit_5 : decode cX7_circuit 5 = .ok (.aload_n 0, 1) := by decide +kernel
theorem dX7_circuit_6 : decode cX7_circuit 6 = .ok (.bipush (-4), 2) := by decide +kernel
theorem dX7_circuit_8 : decode cX7_circuit 8 = .ok (.putfield 93, 3) := by decide +kernel
theorem dX7_circuit_11 : decode cX7_circuit 11 = .ok (.aload_n 0, 1) := by decide +kernel
theorem dX7_circuit_12 : decode cX7_circuit 12 = .ok (.iconst 0, 1) := by decide +kernel
theorem dX7_circuit_13 : decode cX7_circuit 13 = .ok (.putfield 106, 3) := by decide +kernel
theorem dX7_circuit_16 : decode cX7_circuit 16 = .ok (.aload_n 0, 1) := by decide +kernel
theorem dX7_circuit_17 : decode cX7_circuit 17 = .ok (.iconst 0, 1) := by decide +kernel
theorem dX7_circuit_18 : decode cX7_circuit 18 = .ok (.putfield 116, 3) := by decide +kernel
theorem dX7_circuit_21 : decode cX7_circuit 21 = .ok (.aload_n 0, 1) := by decide +kernel
theorem dX7_circuit_22 : decode cX7_circuit 22 = .ok (.invokevirtual 128, 3) := by decide +kernel
theorem dX7_circuit_25 : decode cX7_circuit 25 = .ok (.istore_n 1, 1) := by decide +kernel
theorem dX7_circuit_26 : decode cX7_circuit 26 = .ok (.aload_n 0, 1) := by decide +kernel
theorem dX7_circuit_27 : decode cX7_circuit 27 = .ok (.iload_n 1, 1) := by decide +kernel
theorem dX7_circuit_28 : decode cX7_circuit 28 = .ok (.invokevirtual 131, 3) := by decide +kernel
theorem dX7_circuit_31 : decode cX7_circuit 31 = .ok (.aload_n 0, 1) := by decide +kernel
theorem dX7_circuit_32 : decode cX7_circuit 32 = .ok (.iconst 0, 1) := by decide +kernel
theorem dX7_circuit_33 : decode cX7_circuit 33 = .ok (.putfield 86, 3) := by decide +kernel
theorem dX7_circuit_36 : decode cX7_circuit 36 = .ok (.aload_n 0, 1) := by decide +kernel
theorem dX7_circuit_37 : decode cX7_circuit 37 = .ok (.invokevirtual 96, 3) := by decide +kernel
theorem dX7_circuit_40 : decode cX7_circuit 40 = .ok (.ifCond .ne 11, 3) := by decide +kernel
theorem dX7_circuit_43 : decode cX7_circuit 43 = .ok (.bipush (-20), 2) := by decide +kernel
theorem dX7_circuit_45 : decode cX7_circuit 45 = .ok (.aload_n 0, 1) := by decide +kernel
theorem dX7_circuit_46 : decode cX7_circuit 46 = .ok (.getfield 93, 3) := by decide +kernel
theorem dX7_circuit_49 : decode cX7_circuit 49 = .ok (.isub, 1) := by decide +kernel
theorem dX7_circuit_50 : decode cX7_circuit 50 = .ok (.ireturn, 1) := by decide +kernel
theorem dX7_circuit_51 : decode cX7_circuit 51 = .ok (.aload_n 0, 1) := by decide +kernel
theorem dX7_circuit_52 : decode cX7_circuit 52 = .ok (.iload_n 1, 1) := by decide +kernel
theorem dX7_circuit_53 : decode cX7_circuit 53 = .ok (.invokevirtual 46, 3) := by decide +kernel
theorem dX7_circuit_56 : decode cX7_circuit 56 = .ok (.aload_n 0, 1) := by decide +kernel
theorem dX7_circuit_57 : decode cX7_circuit 57 = .ok (.getfield 7, 3) := by decide +kernel
theorem dX7_circuit_60 : decode cX7_circuit 60 = .ok (.iconst 2, 1) := by decide +kernel
theorem dX7_circuit_61 : decode cX7_circuit 61 = .ok (.aload_n 0, 1) := by decide +kernel
theorem dX7_circuit_62 : decode cX7_circuit 62 = .ok (.getfield 106, 3) := by decide +kernel
theorem dX7_circuit_65 : decode cX7_circuit 65 = .ok (.iastore, 1) := by decide +kernel
theorem dX7_circuit_66 : decode cX7_circuit 66 = .ok (.iconst 0, 1) := by decide +kernel
theorem dX7_circuit_67 : decode cX7_circuit 67 = .ok (.istore_n 2, 1) := by decide +kernel
theorem dX7_circuit_68 : decode cX7_circuit 68 = .ok (.iload_n 2, 1) := by decide +kernel
theorem dX7_circuit_69 : decode cX7_circuit 69 = .ok (.aload_n 0, 1) := by decide +kernel
theorem dX7_circuit_70 : decode cX7_circuit 70 = .ok (.getfield 116, 3) := by decide +kernel
theorem dX7_circuit_73 : decode cX7_circuit 73 = .ok (.if_icmp .ge 57, 3) := by decide +kernel
theorem dX7_circuit_76 : decode cX7_circuit 76 = .ok (.iconst 5, 1) := by decide +kernel
theorem dX7_circuit_77 : decode cX7_circuit 77 = .ok (.iload_n 2, 1) := by decide +kernel
theorem dX7_circuit_78 : decode cX7_circuit 78 = .ok (.imul, 1) := by decide +kernel
theorem dX7_circuit_79 : decode cX7_circuit 79 = .ok (.istore_n 3, 1) := by decide +kernel
theorem dX7_circuit_80 : decode cX7_circuit 80 = .ok (.aload_n 0, 1) := by decide +kernel
theorem dX7_circuit_81 : decode cX7_circuit 81 = .ok (.aload_n 0, 1) := by decide +kernel
theorem dX7_circuit_82 : decode cX7_circuit 82 = .ok (.getfield 29, 3) := by decide +kernel
theorem dX7_circuit_85 : decode cX7_circuit 85 = .ok (.iload_n 3, 1) := by decide +kernel
theorem dX7_circuit_86 : decode cX7_circuit 86 = .ok (.iaload, 1) := by decide +kernel
theorem dX7_circuit_87 : decode cX7_circuit 87 = .ok (.aload_n 0, 1) := by decide +kernel
theorem dX7_circuit_88 : decode cX7_circuit 88 = .ok (.getfield 29, 3) := by decide +kernel
theorem dX7_circuit_91 : decode cX7_circuit 91 = .ok (.iload_n 3, 1) := by decide +kernel
theorem dX7_circuit_92 : decode cX7_circuit 92 = .ok (.iconst 1, 1) := by decide +kernel
theorem dX7_circuit_93 : decode cX7_circuit 93 = .ok (.iadd, 1) := by decide +kernel
theorem dX7_circuit_94 : decode cX7_circuit 94 = .ok (.iaload, 1) := by decide +kernel
theorem dX7_circuit_95 : decode cX7_circuit 95 = .ok (.aload_n 0, 1) := by decide +kernel
theorem dX7_circuit_96 : decode cX7_circuit 96 = .ok (.getfield 29, 3) := by decide +kernel
theorem dX7_circuit_99 : decode cX7_circuit 99 = .ok (.iload_n 3, 1) := by decide +kernel
theorem dX7_circuit_100 : decode cX7_circuit 100 = .ok (.iconst 2, 1) := by decide +kernel
theorem dX7_circuit_101 : decode cX7_circuit 101 = .ok (.iadd, 1) := by decide +kernel
theorem dX7_circuit_102 : decode cX7_circuit 102 = .ok (.iaload, 1) := by decide +kernel
theorem dX7_circuit_103 : decode cX7_circuit 103 = .ok (.aload_n 0, 1) := by decide +kernel
theorem dX7_circuit_104 : decode cX7_circuit 104 = .ok (.getfield 29, 3) := by decide +kernel
theorem dX7_circuit_107 : decode cX7_circuit 107 = .ok (.iload_n 3, 1) := by decide +kernel
theorem dX7_circuit_108 : decode cX7_circuit 108 = .ok (.iconst 3, 1) := by decide +kernel
theorem dX7_circuit_109 : decode cX7_circuit 109 = .ok (.iadd, 1) := by decide +kernel
theorem dX7_circuit_110 : decode cX7_circuit 110 = .ok (.iaload, 1) := by decide +kernel
theorem dX7_circuit_111 : decode cX7_circuit 111 = .ok (.aload_n 0, 1) := by decide +kernel
theorem dX7_circuit_112 : decode cX7_circuit 112 = .ok (.getfield 29, 3) := by decide +kernel
theorem dX7_circuit_115 : decode cX7_circuit 115 = .ok (.iload_n 3, 1) := by decide +kernel
theorem dX7_circuit_116 : decode cX7_circuit 116 = .ok (.iconst 4, 1) := by decide +kernel
theorem dX7_circuit_117 : decode cX7_circuit 117 = .ok (.iadd, 1) := by decide +kernel
theorem dX7_circuit_118 : decode cX7_circuit 118 = .ok (.iaload, 1) := by decide +kernel
theorem dX7_circuit_119 : decode cX7_circuit 119 = .ok (.invokevirtual 62, 3) := by decide +kernel
theorem dX7_circuit_122 : decode cX7_circuit 122 = .ok (.istore 4, 2) := by decide +kernel
theorem dX7_circuit_124 : decode cX7_circuit 124 = .ok (.iinc 2 1, 3) := by decide +kernel
theorem dX7_circuit_127 : decode cX7_circuit 127 = .ok (.goto (-59), 3) := by decide +kernel
theorem dX7_circuit_130 : decode cX7_circuit 130 = .ok (.aload_n 0, 1) := by decide +kernel
theorem dX7_circuit_131 : decode cX7_circuit 131 = .ok (.getfield 116, 3) := by decide +kernel
theorem dX7_circuit_134 : decode cX7_circuit 134 = .ok (.ireturn, 1) := by decide +kernel
def sm_X7_circuit_68 (K68 : Nat → Int32 → aw_H → Prop) (Q : aw_R) (p0 : Nat) (x2 : Int32) (h : aw_H) : Prop :=
  sg_I h p0 6 11 fun v1 => if v1 ≤ x2 then (sg_I h p0 6 11 fun v2 => Q (some (.int v2)) h) else (sg_R h p0 6 12 fun q3 => sa_I h q3 (5 * x2) fun v4 => sg_R h p0 6 12 fun q5 => sa_I h q5 ((5 * x2) + 1) fun v6 => sg_R h p0 6 12 fun q7 => sa_I h q7 ((5 * x2) + 2) fun v8 => sg_R h p0 6 12 fun q9 => sa_I h q9 ((5 * x2) + 3) fun v10 => sg_R h p0 6 12 fun q11 => sa_I h q11 ((5 * x2) + 4) fun v12 => sv_O h p0 6 (tr_X7_put [.ref p0, .int v4, .int v6, .int v8, .int v10, .int v12] h fun r14 h13 => sr_I r14 fun v15 => K68 p0 (x2 + 1) h13))
set_option maxRecDepth 100000 in
set_option maxHeartbeats 4000000 in
theorem bl_X7_circuit_68 {X : aw_X} {Q : aw_R} (C : aw_C X cX7_circuit RX7 5 5) (Z : aw_Z X cX7_circuit (some .int) Q) (p0 : Nat) (x2 : Int32) (h : aw_H) (hh : sm_X7_circuit_68 (fun (p0 : Nat) (x2 : Int32) (h : aw_H) => Sat X 68 [.ref p0, Value.null, .int x2, Value.null, Value.null] [] h) Q p0 x2 h) : Sat X 68 [.ref p0, Value.null, .int x2, Value.null, Value.null] [] h := by
  unfold sm_X7_circuit_68 at hh
  refine ow_iload_n C dX7_circuit_68 rfl rfl ?_
  refine ow_aload_n C dX7_circuit_69 rfl rfl ?_
  refine ow_getI (ci := 6) (k := 11) (T := TX7) C rfl igX7 (by decide) kw_623 dX7_circuit_70 hh (fun v1 hh => ?_)
  refine ow_icmp_ge (tgt := 130) C dX7_circuit_73 (by decide) hh (fun hh => ?_) (fun hh => ?_)
  · skip
    refine ow_aload_n C dX7_circuit_130 rfl rfl ?_
    refine ow_getI (ci := 6) (k := 11) (T := TX7) C rfl igX7 (by decide) kw_623 dX7_circuit_131 hh (fun v2 hh => ?_)
    exact ow_iret Z dX7_circuit_134 trivial hh
  · skip
    refine ow_iconst (v := 5) C dX7_circuit_76 rfl ?_
    refine ow_iload_n C dX7_circuit_77 rfl rfl ?_
    refine ow_imul C dX7_circuit_78 ?_
    refine ow_istore_n (L' := [.ref p0, Value.null, .int x2, .int (5 * x2), Value.null]) C dX7_circuit_79 rfl (by decide) rfl ?_
    refine ow_aload_n C dX7_circuit_80 rfl rfl ?_
    refine ow_aload_n C dX7_circuit_81 rfl rfl ?_
    refine ow_getR (ci := 6) (k := 12) (T := TX7) C rfl igX7 (by decide) kw_622 dX7_circuit_82 hh (fun q3 hh => ?_)
    refine ow_iload_n C dX7_circuit_85 rfl rfl ?_
    refine ow_iaload C dX7_circuit_86 hh (fun v4 hh => ?_)
    refine ow_aload_n C dX7_circuit_87 rfl rfl ?_
    refine ow_getR (ci := 6) (k := 12) (T := TX7) C rfl igX7 (by decide) kw_622 dX7_circuit_88 hh (fun q5 hh => ?_)
    refine ow_iload_n C dX7_circuit_91 rfl rfl ?_
    refine ow_iconst (v := 1) C dX7_circuit_92 rfl ?_
    refine ow_iadd C dX7_circuit_93 ?_
    refine ow_iaload C dX7_circuit_94 hh (fun v6 hh => ?_)
    refine ow_aload_n C dX7_circuit_95 rfl rfl ?_
    refine ow_getR (ci := 6) (k := 12) (T := TX7) C rfl igX7 (by decide) kw_622 dX7_circuit_96 hh (fun q7 hh => ?_)
    refine ow_iload_n C dX7_circuit_99 rfl rfl ?_
    refine ow_iconst (v := 2) C dX7_circuit_100 rfl ?_
    refine ow_iadd C dX7_circuit_101 ?_
    refine ow_iaload C dX7_circuit_102 hh (fun v8 hh => ?_)
    refine ow_aload_n C dX7_circuit_103 rfl rfl ?_
    refine ow_getR (ci := 6) (k := 12) (T := TX7) C rfl igX7 (by decide) kw_622 dX7_circuit_104 hh (fun q9 hh => ?_)
    refine ow_iload_n C dX7_circuit_107 rfl rfl ?_
    refine ow_iconst (v := 3) C dX7_circuit_108 rfl ?_
    refine ow_iadd C dX7_circuit_109 ?_
    refine ow_iaload C dX7_circuit_110 hh (fun v10 hh => ?_)
    refine ow_aload_n C dX7_circuit_111 rfl rfl ?_
    refine ow_getR (ci := 6) (k := 12) (T := TX7) C rfl igX7 (by decide) kw_622 dX7_circuit_112 hh (fun q11 hh => ?_)
    refine ow_iload_n C dX7_circuit_115 rfl rfl ?_
    refine ow_iconst (v := 4) C dX7_circuit_116 rfl ?_
    refine ow_iadd C dX7_circuit_117 ?_
    refine ow_iaload C dX7_circuit_118 hh (fun v12 hh => ?_)
    refine ow_callV C (cv_X7_put _) (Nat.le_of_ble_eq_true rfl) kw_565 dX7_circuit_119 (as := [.int v4, .int v6, .int v8, .int v10, .int v12]) (st := []) rfl rfl (Nat.le_of_ble_eq_true rfl) hh (fun r14 h13 hq => ?_)
    obtain ⟨v15, rfl, hh⟩ := sr_I_e hq
    show Sat X 122 [.ref p0, Value.null, .int x2, .int (5 * x2), Value.null] [.int v15] h13
    refine ow_istore (L' := [.ref p0, Value.null, .int x2, .int (5 * x2), .int v15]) C dX7_circuit_122 (by decide) rfl ?_
    refine ow_iinc (v := x2 + 1) (L' := [.ref p0, Value.null, .int (x2 + 1), .int (5 * x2), .int v15]) C dX7_circuit_124 rfl rfl (by decide) rfl ?_
    refine ow_goto (tgt := 68) C dX7_circuit_127 (by decide) ?_
    exact Sat.mask hh (mk_y (mk_n (mk_y (mk_n (mk_n mk_0)))))
def sm_X7_circuit_0 (K68 : Nat → Int32 → aw_H → Prop) (Q : aw_R) (p0 : Nat) (h : aw_H) : Prop :=
  sp_I h p0 6 8 0 fun h1 => sp_I h1 p0 6 9 ((-4)) fun h2 => sp_I h2 p0 6 10 0 fun h3 => sp_I h3 p0 6 11 0 fun h4 => sv_O h4 p0 6 (tr_X7_readWires [.ref p0] h4 fun r6 h5 => sr_I r6 fun v7 => sv_O h5 p0 6 (tr_X7_readGates [.ref p0, .int v7] h5 fun r9 h8 => sr_V r9 <| sp_I h8 p0 6 3 0 fun h10 => sv_O h10 p0 6 (tr_X7_fine [.ref p0] h10 fun r12 h11 => sr_I r12 fun v13 => if ¬ v13 = 0 then (sv_O h11 p0 6 (tr_X7_clear [.ref p0, .int v7] h11 fun r15 h14 => sr_V r15 <| sg_R h14 p0 6 0 fun q16 => sg_I h14 p0 6 10 fun v17 => ss_I h14 q16 2 v17 fun h18 => K68 p0 0 h18)) else (sg_I h11 p0 6 9 fun v19 => Q (some (.int (((-20)) - v19))) h11))))
set_option maxRecDepth 100000 in
set_option maxHeartbeats 4000000 in
theorem bl_X7_circuit_0 {X : aw_X} {Q : aw_R} (C : aw_C X cX7_circuit RX7 5 5) (Z : aw_Z X cX7_circuit (some .int) Q) (p0 : Nat) (h : aw_H) (hh : sm_X7_circuit_0 (fun (p0 : Nat) (x2 : Int32) (h : aw_H) => Sat X 68 [.ref p0, Value.null, .int x2, Value.null, Value.null] [] h) Q p0 h) : Sat X 0 [.ref p0, Value.null, Value.null, Value.null, Value.null] [] h := by
  unfold sm_X7_circuit_0 at hh
  refine ow_aload_n C dX7_circuit_0 rfl rfl ?_
  refine ow_iconst (v := 0) C dX7_circuit_1 rfl ?_
  refine ow_putI (ci := 6) (k := 8) (T := TX7) C rfl igX7 tyX7 tyX7_ok nmX7 (by decide) kw_596 rfl (by decide +kernel) dX7_circuit_2 hh (fun h1 hh => ?_)
  refine ow_aload_n C dX7_circuit_5 rfl rfl ?_
  refine ow_bipush (v := (-4)) C dX7_circuit_6 rfl ?_
  refine ow_putI (ci := 6) (k := 9) (T := TX7) C rfl igX7 tyX7 tyX7_ok nmX7 (by decide) kw_600 rfl (by decide +kernel) dX7_circuit_8 hh (fun h2 hh => ?_)
  refine ow_aload_n C dX7_circuit_11 rfl rfl ?_
  refine ow_iconst (v := 0) C dX7_circuit_12 rfl ?_
  refine ow_putI (ci := 6) (k := 10) (T := TX7) C rfl igX7 tyX7 tyX7_ok nmX7 (by decide) kw_616 rfl (by decide +kernel) dX7_circuit_13 hh (fun h3 hh => ?_)
  refine ow_aload_n C dX7_circuit_16 rfl rfl ?_
  refine ow_iconst (v := 0) C dX7_circuit_17 rfl ?_
  refine ow_putI (ci := 6) (k := 11) (T := TX7) C rfl igX7 tyX7 tyX7_ok nmX7 (by decide) kw_623 rfl (by decide +kernel) dX7_circuit_18 hh (fun h4 hh => ?_)
  refine ow_aload_n C dX7_circuit_21 rfl rfl ?_
  refine ow_callV C (cv_X7_readWires _) (Nat.le_of_ble_eq_true rfl) kw_639 dX7_circuit_22 (as := []) (st := []) rfl rfl (Nat.le_of_ble_eq_true rfl) hh (fun r6 h5 hq => ?_)
  obtain ⟨v7, rfl, hh⟩ := sr_I_e hq
  show Sat X 25 [.ref p0, Value.null, Value.null, Value.null, Value.null] [.int v7] h5
  refine ow_istore_n (L' := [.ref p0, .int v7, Value.null, Value.null, Value.null]) C dX7_circuit_25 rfl (by decide) rfl ?_
  refine ow_aload_n C dX7_circuit_26 rfl rfl ?_
  refine ow_iload_n C dX7_circuit_27 rfl rfl ?_
  refine ow_callV C (cv_X7_readGates _) (Nat.le_of_ble_eq_true rfl) kw_640 dX7_circuit_28 (as := [.int v7]) (st := []) rfl rfl (Nat.le_of_ble_eq_true rfl) hh (fun r9 h8 hq => ?_)
  obtain ⟨rfl, hh⟩ := sr_V_e hq
  show Sat X 31 [.ref p0, .int v7, Value.null, Value.null, Value.null] [] h8
  refine ow_aload_n C dX7_circuit_31 rfl rfl ?_
  refine ow_iconst (v := 0) C dX7_circuit_32 rfl ?_
  refine ow_putI (ci := 6) (k := 3) (T := TX7) C rfl igX7 tyX7 tyX7_ok nmX7 (by decide) kw_591 rfl (by decide +kernel) dX7_circuit_33 hh (fun h10 hh => ?_)
  refine ow_aload_n C dX7_circuit_36 rfl rfl ?_
  refine ow_callV C (cv_X7_fine _) (Nat.le_of_ble_eq_true rfl) kw_604 dX7_circuit_37 (as := []) (st := []) rfl rfl (Nat.le_of_ble_eq_true rfl) hh (fun r12 h11 hq => ?_)
  obtain ⟨v13, rfl, hh⟩ := sr_I_e hq
  show Sat X 40 [.ref p0, .int v7, Value.null, Value.null, Value.null] [.int v13] h11
  refine ow_if_ne (tgt := 51) C dX7_circuit_40 (by decide) hh (fun hh => ?_) (fun hh => ?_)
  · skip
    refine ow_aload_n C dX7_circuit_51 rfl rfl ?_
    refine ow_iload_n C dX7_circuit_52 rfl rfl ?_
    refine ow_callV C (cv_X7_clear _) (Nat.le_of_ble_eq_true rfl) kw_558 dX7_circuit_53 (as := [.int v7]) (st := []) rfl rfl (Nat.le_of_ble_eq_true rfl) hh (fun r15 h14 hq => ?_)
    obtain ⟨rfl, hh⟩ := sr_V_e hq
    show Sat X 56 [.ref p0, .int v7, Value.null, Value.null, Value.null] [] h14
    refine ow_aload_n C dX7_circuit_56 rfl rfl ?_
    refine ow_getR (ci := 6) (k := 0) (T := TX7) C rfl igX7 (by decide) kw_533 dX7_circuit_57 hh (fun q16 hh => ?_)
    refine ow_iconst (v := 2) C dX7_circuit_60 rfl ?_
    refine ow_aload_n C dX7_circuit_61 rfl rfl ?_
    refine ow_getI (ci := 6) (k := 10) (T := TX7) C rfl igX7 (by decide) kw_616 dX7_circuit_62 hh (fun v17 hh => ?_)
    refine ow_iastore C dX7_circuit_65 hh (fun h18 hh => ?_)
    refine ow_iconst (v := 0) C dX7_circuit_66 rfl ?_
    refine ow_istore_n (L' := [.ref p0, .int v7, .int 0, Value.null, Value.null]) C dX7_circuit_67 rfl (by decide) rfl ?_
    exact Sat.mask hh (mk_y (mk_n (mk_y (mk_n (mk_n mk_0)))))
  · skip
    refine ow_bipush (v := (-20)) C dX7_circuit_43 rfl ?_
    refine ow_aload_n C dX7_circuit_45 rfl rfl ?_
    refine ow_getI (ci := 6) (k := 9) (T := TX7) C rfl igX7 (by decide) kw_600 dX7_circuit_46 hh (fun v19 hh => ?_)
    refine ow_isub C dX7_circuit_49 ?_
    exact ow_iret Z dX7_circuit_50 trivial hh
def tr_X7_circuit : aw_T := fun as h Q => ∃ (p0 : Nat), as = [.ref p0] ∧ (∀ (K68 : Nat → Int32 → aw_H → Prop), (∀ (p0 : Nat) (x2 : Int32) (h : aw_H), sm_X7_circuit_68 K68 Q p0 x2 h → K68 p0 x2 h) → sm_X7_circuit_0 K68 Q p0 h)
theorem tq_X7_circuit {p0 : Nat} {h : aw_H} {Q : aw_R} : tr_X7_circuit [.ref p0] h Q ↔ (∀ (K68 : Nat → Int32 → aw_H → Prop), (∀ (p0 : Nat) (x2 : Int32) (h : aw_H), sm_X7_circuit_68 K68 Q p0 x2 h → K68 p0 x2 h) → sm_X7_circuit_0 K68 Q p0 h) := by
  constructor
  · rintro ⟨_, as0, hh⟩
    cases as0
    exact hh
  · intro hh
    exact ⟨_, rfl, hh⟩
theorem ct_X7_circuit (E : aw_F) : CT E yX7_circuit cX7_circuit 5 (some .int) 5 tr_X7_circuit := by
  refine ct_of (by decide) ?_
  intro X Q as h hE C Z hG
  subst hE
  obtain ⟨p0, rfl, hh⟩ := hG
  refine ⟨[.ref p0, Value.null, Value.null, Value.null, Value.null], rfl, Nat.le_of_ble_eq_true rfl, ?_⟩
  exact bl_X7_circuit_0 C Z p0 h (hh (fun (p0 : Nat) (x2 : Int32) (h : aw_H) => Sat X 68 [.ref p0, Value.null, .int x2, Value.null, Value.null] [] h) (fun p0 x2 h hh => bl_X7_circuit_68 C Z p0 x2 h hh))
theorem cv_X7_circuit (E : aw_F) : CV E yX7_circuit cX7_circuit 5 (some .int) 5 0 6 tr_X7_circuit := ⟨ct_X7_circuit E, by decide, kw_642, kw_643, kw_527, kw_641, by decide +kernel, _, _, rfl⟩
theorem dX7_dead_0 : decode cX7_dead 0 = .ok (.iconst 0, 1) := by decide +kernel
theorem dX7_dead_1 : decode cX7_dead 1 = .ok (.istore_n 1, 1) := by decide +kernel
theorem dX7_dead_2 : decode cX7_dead 2 = .ok (.iconst 0, 1) := by decide +kernel
theorem dX7_dead_3 : decode cX7_dead 3 = .ok (.istore_n 2, 1) := by decide +kernel
theorem dX7_dead_4 : decode cX7_dead 4 = .ok (.iload_n 2, 1) := by decide +kernel
theorem dX7_dead_5 : decode cX7_dead 5 = .ok (.aload_n 0, 1) := by decide +kernel
theorem dX7_dead_6 : decode cX7_dead 6 = .ok (.getfield 7, 3) := by decide +kernel
theorem dX7_dead_9 : decode cX7_dead 9 = .ok (.iconst 1, 1) := by decide +kernel
theorem dX7_dead_10 : decode cX7_dead 10 = .ok (.iaload, 1) := by decide +kernel
theorem dX7_dead_11 : decode cX7_dead 11 = .ok (.if_icmp .ge 26, 3) := by decide +kernel
theorem dX7_dead_14 : decode cX7_dead 14 = .ok (.iload_n 1, 1) := by decide +kernel
theorem dX7_dead_15 : decode cX7_dead 15 = .ok (.aload_n 0, 1) := by decide +kernel
theorem dX7_dead_16 : decode cX7_dead 16 = .ok (.getfield 7, 3) := by decide +kernel
theorem dX7_dead_19 : decode cX7_dead 19 = .ok (.iconst 5, 1) := by decide +kernel
theorem dX7_dead_20 : decode cX7_dead 20 = .ok (.iconst 5, 1) := by decide +kernel
theorem dX7_dead_21 : decode cX7_dead 21 = .ok (.iload_n 2, 1) := by decide +kernel
theorem dX7_dead_22 : decode cX7_dead 22 = .ok (.imul, 1) := by decide +kernel
theorem dX7_dead_23 : decode cX7_dead 23 = .ok (.iadd, 1) := by decide +kernel
theorem dX7_dead_24 : decode cX7_dead 24 = .ok (.iconst 4, 1) := by decide +kernel
theorem dX7_dead_25 : decode cX7_dead 25 = .ok (.iadd, 1) := by decide +kernel
theorem dX7_dead_26 : decode cX7_dead 26 = .ok (.iaload, 1) := by decide +kernel
theorem dX7_dead_27 : decode cX7_dead 27 = .ok (.iload_n 2, 1) := by decide +kernel
theorem dX7_dead_28 : decode cX7_dead 28 = .ok (.ishl, 1) := by decide +kernel
theorem dX7_dead_29 : decode cX7_dead 29 = .ok (.ior, 1) := by decide +kernel
theorem dX7_dead_30 : decode cX7_dead 30 = .ok (.istore_n 1, 1) := by decide +kernel
theorem dX7_dead_31 : decode cX7_dead 31 = .ok (.iinc 2 1, 3) := by decide +kernel
theorem dX7_dead_34 : decode cX7_dead 34 = .ok (.goto (-30), 3) := by decide +kernel
theorem dX7_dead_37 : decode cX7_dead 37 = .ok (.iload_n 1, 1) := by decide +kernel
theorem dX7_dead_38 : decode cX7_dead 38 = .ok (.ireturn, 1) := by decide +kernel
def sm_X7_dead_4 (K4 : Nat → Int32 → Int32 → aw_H → Prop) (Q : aw_R) (p0 : Nat) (x1 : Int32) (x2 : Int32) (h : aw_H) : Prop :=
  sg_R h p0 6 0 fun q1 => sa_I h q1 1 fun v2 => if v2 ≤ x2 then (Q (some (.int x1)) h) else (sg_R h p0 6 0 fun q3 => sa_I h q3 ((5 + (5 * x2)) + 4) fun v4 => K4 p0 (x1 ||| (v4 <<< (x2 &&& 31))) (x2 + 1) h)
set_option maxRecDepth 100000 in
set_option maxHeartbeats 4000000 in
theorem bl_X7_dead_4 {X : aw_X} {Q : aw_R} (C : aw_C X cX7_dead RX7 3 0) (Z : aw_Z X cX7_dead (some .int) Q) (p0 : Nat) (x1 : Int32) (x2 : Int32) (h : aw_H) (hh : sm_X7_dead_4 (fun (p0 : Nat) (x1 : Int32) (x2 : Int32) (h : aw_H) => Sat X 4 [.ref p0, .int x1, .int x2] [] h) Q p0 x1 x2 h) : Sat X 4 [.ref p0, .int x1, .int x2] [] h := by
  unfold sm_X7_dead_4 at hh
  refine ow_iload_n C dX7_dead_4 rfl rfl ?_
  refine ow_aload_n C dX7_dead_5 rfl rfl ?_
  refine ow_getR (ci := 6) (k := 0) (T := TX7) C rfl igX7 (by decide) kw_533 dX7_dead_6 hh (fun q1 hh => ?_)
  refine ow_iconst (v := 1) C dX7_dead_9 rfl ?_
  refine ow_iaload C dX7_dead_10 hh (fun v2 hh => ?_)
  refine ow_icmp_ge (tgt := 37) C dX7_dead_11 (by decide) hh (fun hh => ?_) (fun hh => ?_)
  · skip
    refine ow_iload_n C dX7_dead_37 rfl rfl ?_
    exact ow_iret Z dX7_dead_38 trivial hh
  · skip
    refine ow_iload_n C dX7_dead_14 rfl rfl ?_
    refine ow_aload_n C dX7_dead_15 rfl rfl ?_
    refine ow_getR (ci := 6) (k := 0) (T := TX7) C rfl igX7 (by decide) kw_533 dX7_dead_16 hh (fun q3 hh => ?_)
    refine ow_iconst (v := 5) C dX7_dead_19 rfl ?_
    refine ow_iconst (v := 5) C dX7_dead_20 rfl ?_
    refine ow_iload_n C dX7_dead_21 rfl rfl ?_
    refine ow_imul C dX7_dead_22 ?_
    refine ow_iadd C dX7_dead_23 ?_
    refine ow_iconst (v := 4) C dX7_dead_24 rfl ?_
    refine ow_iadd C dX7_dead_25 ?_
    refine ow_iaload C dX7_dead_26 hh (fun v4 hh => ?_)
    refine ow_iload_n C dX7_dead_27 rfl rfl ?_
    refine ow_ishl C dX7_dead_28 ?_
    refine ow_ior C dX7_dead_29 ?_
    refine ow_istore_n (L' := [.ref p0, .int (x1 ||| (v4 <<< (x2 &&& 31))), .int x2]) C dX7_dead_30 rfl (by decide) rfl ?_
    refine ow_iinc (v := x2 + 1) (L' := [.ref p0, .int (x1 ||| (v4 <<< (x2 &&& 31))), .int (x2 + 1)]) C dX7_dead_31 rfl rfl (by decide) rfl ?_
    refine ow_goto (tgt := 4) C dX7_dead_34 (by decide) ?_
    exact Sat.mask hh (mk_y (mk_y (mk_y mk_0)))
def sm_X7_dead_0 (K4 : Nat → Int32 → Int32 → aw_H → Prop) (Q : aw_R) (p0 : Nat) (h : aw_H) : Prop :=
  K4 p0 0 0 h
set_option maxRecDepth 100000 in
set_option maxHeartbeats 4000000 in
theorem bl_X7_dead_0 {X : aw_X} {Q : aw_R} (C : aw_C X cX7_dead RX7 3 0) (Z : aw_Z X cX7_dead (some .int) Q) (p0 : Nat) (h : aw_H) (hh : sm_X7_dead_0 (fun (p0 : Nat) (x1 : Int32) (x2 : Int32) (h : aw_H) => Sat X 4 [.ref p0, .int x1, .int x2] [] h) Q p0 h) : Sat X 0 [.ref p0, Value.null, Value.null] [] h := by
  unfold sm_X7_dead_0 at hh
  refine ow_iconst (v := 0) C dX7_dead_0 rfl ?_
  refine ow_istore_n (L' := [.ref p0, .int 0, Value.null]) C dX7_dead_1 rfl (by decide) rfl ?_
  refine ow_iconst (v := 0) C dX7_dead_2 rfl ?_
  refine ow_istore_n (L' := [.ref p0, .int 0, .int 0]) C dX7_dead_3 rfl (by decide) rfl ?_
  exact Sat.mask hh (mk_y (mk_y (mk_y mk_0)))
def tr_X7_dead : aw_T := fun as h Q => ∃ (p0 : Nat), as = [.ref p0] ∧ (∀ (K4 : Nat → Int32 → Int32 → aw_H → Prop), (∀ (p0 : Nat) (x1 : Int32) (x2 : Int32) (h : aw_H), sm_X7_dead_4 K4 Q p0 x1 x2 h → K4 p0 x1 x2 h) → sm_X7_dead_0 K4 Q p0 h)
theorem tq_X7_dead {p0 : Nat} {h : aw_H} {Q : aw_R} : tr_X7_dead [.ref p0] h Q ↔ (∀ (K4 : Nat → Int32 → Int32 → aw_H → Prop), (∀ (p0 : Nat) (x1 : Int32) (x2 : Int32) (h : aw_H), sm_X7_dead_4 K4 Q p0 x1 x2 h → K4 p0 x1 x2 h) → sm_X7_dead_0 K4 Q p0 h) := by
  constructor
  · rintro ⟨_, as0, hh⟩
    cases as0
    exact hh
  · intro hh
    exact ⟨_, rfl, hh⟩
theorem ct_X7_dead (E : aw_F) : CT E yX7_dead cX7_dead 3 (some .int) 0 tr_X7_dead := by
  refine ct_of (by decide) ?_
  intro X Q as h hE C Z hG
  subst hE
  obtain ⟨p0, rfl, hh⟩ := hG
  refine ⟨[.ref p0, Value.null, Value.null], rfl, Nat.le_of_ble_eq_true rfl, ?_⟩
  exact bl_X7_dead_0 C Z p0 h (hh (fun (p0 : Nat) (x1 : Int32) (x2 : Int32) (h : aw_H) => Sat X 4 [.ref p0, .int x1, .int x2] [] h) (fun p0 x1 x2 h hh => bl_X7_dead_4 C Z p0 x1 x2 h hh))
theorem cv_X7_dead (E : aw_F) : CV E yX7_dead cX7_dead 3 (some .int) 0 0 6 tr_X7_dead := ⟨ct_X7_dead E, by decide, kw_645, kw_646, kw_527, kw_644, by decide +kernel, _, _, rfl⟩
theorem dX7_count_0 : decode cX7_count 0 = .ok (.iload_n 1, 1) := by decide +kernel
theorem dX7_count_1 : decode cX7_count 1 = .ok (.tableswitch 95 0 6 #[43, 50, 57, 64, 71, 76, 86], 43) := by decide +kernel
theorem dX7_count_44 : decode cX7_count 44 = .ok (.aload_n 0, 1) := by decide +kernel
theorem dX7_count_45 : decode cX7_count 45 = .ok (.getfield 7, 3) := by decide +kernel
theorem dX7_count_48 : decode cX7_count 48 = .ok (.iconst 0, 1) := by decide +kernel
theorem dX7_count_49 : decode cX7_count 49 = .ok (.iaload, 1) := by decide +kernel
theorem dX7_count_50 : decode cX7_count 50 = .ok (.ireturn, 1) := by decide +kernel
theorem dX7_count_51 : decode cX7_count 51 = .ok (.aload_n 0, 1) := by decide +kernel
theorem dX7_count_52 : decode cX7_count 52 = .ok (.getfield 7, 3) := by decide +kernel
theorem dX7_count_55 : decode cX7_count 55 = .ok (.iconst 1, 1) := by decide +kernel
theorem dX7_count_56 : decode cX7_count 56 = .ok (.iaload, 1) := by decide +kernel
theorem dX7_count_57 : decode cX7_count 57 = .ok (.ireturn, 1) := by decide +kernel
theorem dX7_count_58 : decode cX7_count 58 = .ok (.aload_n 0, 1) := by decide +kernel
theorem dX7_count_59 : decode cX7_count 59 = .ok (.getfield 7, 3) := by decide +kernel
theorem dX7_count_62 : decode cX7_count 62 = .ok (.iconst 2, 1) := by decide +kernel
theorem dX7_count_63 : decode cX7_count 63 = .ok (.iaload, 1) := by decide +kernel
theorem dX7_count_64 : decode cX7_count 64 = .ok (.ireturn, 1) := by decide +kernel
theorem dX7_count_65 : decode cX7_count 65 = .ok (.aload_n 0, 1) := by decide +kernel
theorem dX7_count_66 : decode cX7_count 66 = .ok (.getfield 7, 3) := by decide +kernel
theorem dX7_count_69 : decode cX7_count 69 = .ok (.iconst 3, 1) := by decide +kernel
theorem dX7_count_70 : decode cX7_count 70 = .ok (.iaload, 1) := by decide +kernel
theorem dX7_count_71 : decode cX7_count 71 = .ok (.ireturn, 1) := by decide +kernel
theorem dX7_count_72 : decode cX7_count 72 = .ok (.aload_n 0, 1) := by decide +kernel
theorem dX7_count_73 : decode cX7_count 73 = .ok (.invokevirtual 134, 3) := by decide +kernel
theorem dX7_count_76 : decode cX7_count 76 = .ok (.ireturn, 1) := by decide +kernel
theorem dX7_count_77 : decode cX7_count 77 = .ok (.aload_n 0, 1) := by decide +kernel
theorem dX7_count_78 : decode cX7_count 78 = .ok (.getfield 7, 3) := by decide +kernel
theorem dX7_count_81 : decode cX7_count 81 = .ok (.iconst 2, 1) := by decide +kernel
theorem dX7_count_82 : decode cX7_count 82 = .ok (.iaload, 1) := by decide +kernel
theorem dX7_count_83 : decode cX7_count 83 = .ok (.invokestatic 137, 3) := by decide +kernel
theorem dX7_count_86 : decode cX7_count 86 = .ok (.ireturn, 1) := by decide +kernel
theorem dX7_count_87 : decode cX7_count 87 = .ok (.aload_n 0, 1) := by decide +kernel
theorem dX7_count_88 : decode cX7_count 88 = .ok (.getfield 7, 3) := by decide +kernel
theorem dX7_count_91 : decode cX7_count 91 = .ok (.sipush 765, 3) := by decide +kernel
theorem dX7_count_94 : decode cX7_count 94 = .ok (.iaload, 1) := by decide +kernel
theorem dX7_count_95 : decode cX7_count 95 = .ok (.ireturn, 1) := by decide +kernel
theorem dX7_count_96 : decode cX7_count 96 = .ok (.iconst (-1), 1) := by decide +kernel
theorem dX7_count_97 : decode cX7_count 97 = .ok (.ireturn, 1) := by decide +kernel
def sm_X7_count_0  (Q : aw_R) (p0 : Nat) (x1 : Int32) (h : aw_H) : Prop :=
  if x1 = 0 then (sg_R h p0 6 0 fun q1 => sa_I h q1 0 fun v2 => Q (some (.int v2)) h) else if x1 = 1 then (sg_R h p0 6 0 fun q3 => sa_I h q3 1 fun v4 => Q (some (.int v4)) h) else if x1 = 2 then (sg_R h p0 6 0 fun q5 => sa_I h q5 2 fun v6 => Q (some (.int v6)) h) else if x1 = 3 then (sg_R h p0 6 0 fun q7 => sa_I h q7 3 fun v8 => Q (some (.int v8)) h) else if x1 = 4 then (sv_O h p0 6 (tr_X7_dead [.ref p0] h fun r10 h9 => sr_I r10 fun v11 => Q (some (.int v11)) h9)) else if x1 = 5 then (sg_R h p0 6 0 fun q12 => sa_I h q12 2 fun v13 => tr_X7_bits [.int v13] h fun r15 h14 => sr_I r15 fun v16 => Q (some (.int v16)) h14) else if x1 = 6 then (sg_R h p0 6 0 fun q17 => sa_I h q17 765 fun v18 => Q (some (.int v18)) h) else (Q (some (.int ((-1)))) h)
set_option maxRecDepth 100000 in
set_option maxHeartbeats 4000000 in
theorem bl_X7_count_0 {X : aw_X} {Q : aw_R} (C : aw_C X cX7_count RX7 2 1) (Z : aw_Z X cX7_count (some .int) Q) (p0 : Nat) (x1 : Int32) (h : aw_H) (hh : sm_X7_count_0  Q p0 x1 h) : Sat X 0 [.ref p0, .int x1] [] h := by
  unfold sm_X7_count_0 at hh
  refine ow_iload_n C dX7_count_0 rfl rfl ?_
  rcases if_e hh with ⟨hc0, hh⟩ | ⟨hc0, hh⟩
  · refine ow_tableIn (tgt := 44) (v := 0) C dX7_count_1 hc0 (by decide) (by decide) rfl (by decide) ?_
    refine ow_aload_n C dX7_count_44 rfl rfl ?_
    refine ow_getR (ci := 6) (k := 0) (T := TX7) C rfl igX7 (by decide) kw_533 dX7_count_45 hh (fun q1 hh => ?_)
    refine ow_iconst (v := 0) C dX7_count_48 rfl ?_
    refine ow_iaload C dX7_count_49 hh (fun v2 hh => ?_)
    exact ow_iret Z dX7_count_50 trivial hh
  rcases if_e hh with ⟨hc1, hh⟩ | ⟨hc1, hh⟩
  · refine ow_tableIn (tgt := 51) (v := 1) C dX7_count_1 hc1 (by decide) (by decide) rfl (by decide) ?_
    refine ow_aload_n C dX7_count_51 rfl rfl ?_
    refine ow_getR (ci := 6) (k := 0) (T := TX7) C rfl igX7 (by decide) kw_533 dX7_count_52 hh (fun q3 hh => ?_)
    refine ow_iconst (v := 1) C dX7_count_55 rfl ?_
    refine ow_iaload C dX7_count_56 hh (fun v4 hh => ?_)
    exact ow_iret Z dX7_count_57 trivial hh
  rcases if_e hh with ⟨hc2, hh⟩ | ⟨hc2, hh⟩
  · refine ow_tableIn (tgt := 58) (v := 2) C dX7_count_1 hc2 (by decide) (by decide) rfl (by decide) ?_
    refine ow_aload_n C dX7_count_58 rfl rfl ?_
    refine ow_getR (ci := 6) (k := 0) (T := TX7) C rfl igX7 (by decide) kw_533 dX7_count_59 hh (fun q5 hh => ?_)
    refine ow_iconst (v := 2) C dX7_count_62 rfl ?_
    refine ow_iaload C dX7_count_63 hh (fun v6 hh => ?_)
    exact ow_iret Z dX7_count_64 trivial hh
  rcases if_e hh with ⟨hc3, hh⟩ | ⟨hc3, hh⟩
  · refine ow_tableIn (tgt := 65) (v := 3) C dX7_count_1 hc3 (by decide) (by decide) rfl (by decide) ?_
    refine ow_aload_n C dX7_count_65 rfl rfl ?_
    refine ow_getR (ci := 6) (k := 0) (T := TX7) C rfl igX7 (by decide) kw_533 dX7_count_66 hh (fun q7 hh => ?_)
    refine ow_iconst (v := 3) C dX7_count_69 rfl ?_
    refine ow_iaload C dX7_count_70 hh (fun v8 hh => ?_)
    exact ow_iret Z dX7_count_71 trivial hh
  rcases if_e hh with ⟨hc4, hh⟩ | ⟨hc4, hh⟩
  · refine ow_tableIn (tgt := 72) (v := 4) C dX7_count_1 hc4 (by decide) (by decide) rfl (by decide) ?_
    refine ow_aload_n C dX7_count_72 rfl rfl ?_
    refine ow_callV C (cv_X7_dead _) (Nat.le_of_ble_eq_true rfl) kw_647 dX7_count_73 (as := []) (st := []) rfl rfl (Nat.le_of_ble_eq_true rfl) hh (fun r10 h9 hq => ?_)
    obtain ⟨v11, rfl, hh⟩ := sr_I_e hq
    show Sat X 76 [.ref p0, .int x1] [.int v11] h9
    exact ow_iret Z dX7_count_76 trivial hh
  rcases if_e hh with ⟨hc5, hh⟩ | ⟨hc5, hh⟩
  · refine ow_tableIn (tgt := 77) (v := 5) C dX7_count_1 hc5 (by decide) (by decide) rfl (by decide) ?_
    refine ow_aload_n C dX7_count_77 rfl rfl ?_
    refine ow_getR (ci := 6) (k := 0) (T := TX7) C rfl igX7 (by decide) kw_533 dX7_count_78 hh (fun q12 hh => ?_)
    refine ow_iconst (v := 2) C dX7_count_81 rfl ?_
    refine ow_iaload C dX7_count_82 hh (fun v13 hh => ?_)
    refine ow_callS C (cs_X7_bits _) (Nat.le_of_ble_eq_true rfl) kw_648 dX7_count_83 (as := [.int v13]) (st := []) rfl rfl (Nat.le_of_ble_eq_true rfl) hh (fun r15 h14 hq => ?_)
    obtain ⟨v16, rfl, hh⟩ := sr_I_e hq
    show Sat X 86 [.ref p0, .int x1] [.int v16] h14
    exact ow_iret Z dX7_count_86 trivial hh
  rcases if_e hh with ⟨hc6, hh⟩ | ⟨hc6, hh⟩
  · refine ow_tableIn (tgt := 87) (v := 6) C dX7_count_1 hc6 (by decide) (by decide) rfl (by decide) ?_
    refine ow_aload_n C dX7_count_87 rfl rfl ?_
    refine ow_getR (ci := 6) (k := 0) (T := TX7) C rfl igX7 (by decide) kw_533 dX7_count_88 hh (fun q17 hh => ?_)
    refine ow_sipush (v := 765) C dX7_count_91 rfl ?_
    refine ow_iaload C dX7_count_94 hh (fun v18 hh => ?_)
    exact ow_iret Z dX7_count_95 trivial hh
  refine ow_tableOut (tgt := 96) C dX7_count_1 (by have := lv_neT hc0 (a := 0) rfl; have := lv_neT hc1 (a := 1) rfl; have := lv_neT hc2 (a := 2) rfl; have := lv_neT hc3 (a := 3) rfl; have := lv_neT hc4 (a := 4) rfl; have := lv_neT hc5 (a := 5) rfl; have := lv_neT hc6 (a := 6) rfl; omega) (by decide) ?_
  refine ow_iconst (v := (-1)) C dX7_count_96 rfl ?_
  exact ow_iret Z dX7_count_97 trivial hh
def tr_X7_count : aw_T := fun as h Q => ∃ (p0 : Nat) (x1 : Int32), as = [.ref p0, .int x1] ∧ (sm_X7_count_0  Q p0 x1 h)
theorem tq_X7_count {p0 : Nat} {x1 : Int32} {h : aw_H} {Q : aw_R} : tr_X7_count [.ref p0, .int x1] h Q ↔ (sm_X7_count_0  Q p0 x1 h) := by
  constructor
  · rintro ⟨_, _, as0, hh⟩
    cases as0
    exact hh
  · intro hh
    exact ⟨_, _, rfl, hh⟩
theorem ct_X7_count (E : aw_F) : CT E yX7_count cX7_count 2 (some .int) 1 tr_X7_count := by
  refine ct_of (by decide) ?_
  intro X Q as h hE C Z hG
  subst hE
  obtain ⟨p0, x1, rfl, hh⟩ := hG
  refine ⟨[.ref p0, .int x1], rfl, Nat.le_of_ble_eq_true rfl, ?_⟩
  exact bl_X7_count_0 C Z p0 x1 h hh
theorem cv_X7_count (E : aw_F) : CV E yX7_count cX7_count 2 (some .int) 1 1 6 tr_X7_count := ⟨ct_X7_count E, by decide, kw_650, kw_651, kw_527, kw_649, by decide +kernel, _, _, rfl⟩
theorem dX7_remember_0 : decode cX7_remember 0 = .ok (.aload_n 0, 1) := by decide +kernel
theorem dX7_remember_1 : decode cX7_remember 1 = .ok (.getfield 7, 3) := by decide +kernel
theorem dX7_remember_4 : decode cX7_remember 4 = .ok (.sipush 765, 3) := by decide +kernel
theorem dX7_remember_7 : decode cX7_remember 7 = .ok (.iaload, 1) := by decide +kernel
theorem dX7_remember_8 : decode cX7_remember 8 = .ok (.bipush 8, 2) := by decide +kernel
theorem dX7_remember_10 : decode cX7_remember 10 = .ok (.if_icmp .ne 49, 3) := by decide +kernel
theorem dX7_remember_13 : decode cX7_remember 13 = .ok (.iconst 0, 1) := by decide +kernel
theorem dX7_remember_14 : decode cX7_remember 14 = .ok (.istore_n 1, 1) := by decide +kernel
theorem dX7_remember_15 : decode cX7_remember 15 = .ok (.iload_n 1, 1) := by decide +kernel
theorem dX7_remember_16 : decode cX7_remember 16 = .ok (.sipush 595, 3) := by decide +kernel
theorem dX7_remember_19 : decode cX7_remember 19 = .ok (.if_icmp .ge 28, 3) := by decide +kernel
theorem dX7_remember_22 : decode cX7_remember 22 = .ok (.aload_n 0, 1) := by decide +kernel
theorem dX7_remember_23 : decode cX7_remember 23 = .ok (.getfield 7, 3) := by decide +kernel
theorem dX7_remember_26 : decode cX7_remember 26 = .ok (.bipush 85, 2) := by decide +kernel
theorem dX7_remember_28 : decode cX7_remember 28 = .ok (.iload_n 1, 1) := by decide +kernel
theorem dX7_remember_29 : decode cX7_remember 29 = .ok (.iadd, 1) := by decide +kernel
theorem dX7_remember_30 : decode cX7_remember 30 = .ok (.aload_n 0, 1) := by decide +kernel
theorem dX7_remember_31 : decode cX7_remember 31 = .ok (.getfield 7, 3) := by decide +kernel
theorem dX7_remember_34 : decode cX7_remember 34 = .ok (.sipush 170, 3) := by decide +kernel
theorem dX7_remember_37 : decode cX7_remember 37 = .ok (.iload_n 1, 1) := by decide +kernel
theorem dX7_remember_38 : decode cX7_remember 38 = .ok (.iadd, 1) := by decide +kernel
theorem dX7_remember_39 : decode cX7_remember 39 = .ok (.iaload, 1) := by decide +kernel
theorem dX7_remember_40 : decode cX7_remember 40 = .ok (.iastore, 1) := by decide +kernel
theorem dX7_remember_41 : decode cX7_remember 41 = .ok (.iinc 1 1, 3) := by decide +kernel
theorem dX7_remember_44 : decode cX7_remember 44 = .ok (.goto (-29), 3) := by decide +kernel
theorem dX7_remember_47 : decode cX7_remember 47 = .ok (.aload_n 0, 1) := by decide +kernel
theorem dX7_remember_48 : decode cX7_remember 48 = .ok (.getfield 7, 3) := by decide +kernel
theorem dX7_remember_51 : decode cX7_remember 51 = .ok (.sipush 765, 3) := by decide +kernel
theorem dX7_remember_54 : decode cX7_remember 54 = .ok (.dup2, 1) := by decide +kernel
theorem dX7_remember_55 : decode cX7_remember 55 = .ok (.iaload, 1) := by decide +kernel
theorem dX7_remember_56 : decode cX7_remember 56 = .ok (.iconst 1, 1) := by decide +kernel
theorem dX7_remember_57 : decode cX7_remember 57 = .ok (.isub, 1) := by decide +kernel
theorem dX7_remember_58 : decode cX7_remember 58 = .ok (.iastore, 1) := by decide +kernel
theorem dX7_remember_59 : decode cX7_remember 59 = .ok (.aload_n 0, 1) := by decide +kernel
theorem dX7_remember_60 : decode cX7_remember 60 = .ok (.iconst 0, 1) := by decide +kernel
theorem dX7_remember_61 : decode cX7_remember 61 = .ok (.bipush 85, 2) := by decide +kernel
theorem dX7_remember_63 : decode cX7_remember 63 = .ok (.bipush 85, 2) := by decide +kernel
theorem dX7_remember_65 : decode cX7_remember 65 = .ok (.aload_n 0, 1) := by decide +kernel
theorem dX7_remember_66 : decode cX7_remember 66 = .ok (.getfield 7, 3) := by decide +kernel
theorem dX7_remember_69 : decode cX7_remember 69 = .ok (.sipush 765, 3) := by decide +kernel
theorem dX7_remember_72 : decode cX7_remember 72 = .ok (.iaload, 1) := by decide +kernel
theorem dX7_remember_73 : decode cX7_remember 73 = .ok (.imul, 1) := by decide +kernel
theorem dX7_remember_74 : decode cX7_remember 74 = .ok (.iadd, 1) := by decide +kernel
theorem dX7_remember_75 : decode cX7_remember 75 = .ok (.bipush 85, 2) := by decide +kernel
theorem dX7_remember_77 : decode cX7_remember 77 = .ok (.invokevirtual 140, 3) := by decide +kernel
theorem dX7_remember_80 : decode cX7_remember 80 = .ok (.aload_n 0, 1) := by decide +kernel
theorem dX7_remember_81 : decode cX7_remember 81 = .ok (.getfield 7, 3) := by decide +kernel
theorem dX7_remember_84 : decode cX7_remember 84 = .ok (.sipush 765, 3) := by decide +kernel
theorem dX7_remember_87 : decode cX7_remember 87 = .ok (.dup2, 1) := by decide +kernel
theorem dX7_remember_88 : decode cX7_remember 88 = .ok (.iaload, 1) := by decide +kernel
theorem dX7_remember_89 : decode cX7_remember 89 = .ok (.iconst 1, 1) := by decide +kernel
theorem dX7_remember_90 : decode cX7_remember 90 = .ok (.iadd, 1) := by decide +kernel
theorem dX7_remember_91 : decode cX7_remember 91 = .ok (.iastore, 1) := by decide +kernel
theorem dX7_remember_92 : decode cX7_remember 92 = .ok (.return_, 1) := by decide +kernel
def sm_X7_remember_59 (K15 : Nat → Int32 → aw_H → Prop) (Q : aw_R) (p0 : Nat) (h : aw_H) : Prop :=
  sg_R h p0 6 0 fun q1 => sa_I h q1 765 fun v2 => sv_O h p0 6 (tr_X7_copyRow [.ref p0, .int 0, .int (85 + (85 * v2)), .int 85] h fun r4 h3 => sr_V r4 <| sg_R h3 p0 6 0 fun q5 => sa_I h3 q5 765 fun v6 => ss_I h3 q5 765 (v6 + 1) fun h7 => Q none h7)
set_option maxRecDepth 100000 in
set_option maxHeartbeats 4000000 in
theorem bl_X7_remember_59 {X : aw_X} {Q : aw_R} (C : aw_C X cX7_remember RX7 2 1) (Z : aw_Z X cX7_remember none Q) (p0 : Nat) (h : aw_H) (hh : sm_X7_remember_59 (fun (p0 : Nat) (x1 : Int32) (h : aw_H) => Sat X 15 [.ref p0, .int x1] [] h) Q p0 h) : Sat X 59 [.ref p0, Value.null] [] h := by
  unfold sm_X7_remember_59 at hh
  refine ow_aload_n C dX7_remember_59 rfl rfl ?_
  refine ow_iconst (v := 0) C dX7_remember_60 rfl ?_
  refine ow_bipush (v := 85) C dX7_remember_61 rfl ?_
  refine ow_bipush (v := 85) C dX7_remember_63 rfl ?_
  refine ow_aload_n C dX7_remember_65 rfl rfl ?_
  refine ow_getR (ci := 6) (k := 0) (T := TX7) C rfl igX7 (by decide) kw_533 dX7_remember_66 hh (fun q1 hh => ?_)
  refine ow_sipush (v := 765) C dX7_remember_69 rfl ?_
  refine ow_iaload C dX7_remember_72 hh (fun v2 hh => ?_)
  refine ow_imul C dX7_remember_73 ?_
  refine ow_iadd C dX7_remember_74 ?_
  refine ow_bipush (v := 85) C dX7_remember_75 rfl ?_
  refine ow_callV C (cv_X7_copyRow _) (Nat.le_of_ble_eq_true rfl) kw_652 dX7_remember_77 (as := [.int 0, .int (85 + (85 * v2)), .int 85]) (st := []) rfl rfl (Nat.le_of_ble_eq_true rfl) hh (fun r4 h3 hq => ?_)
  obtain ⟨rfl, hh⟩ := sr_V_e hq
  show Sat X 80 [.ref p0, Value.null] [] h3
  refine ow_aload_n C dX7_remember_80 rfl rfl ?_
  refine ow_getR (ci := 6) (k := 0) (T := TX7) C rfl igX7 (by decide) kw_533 dX7_remember_81 hh (fun q5 hh => ?_)
  refine ow_sipush (v := 765) C dX7_remember_84 rfl ?_
  refine ow_dup2 C dX7_remember_87 rfl rfl ?_
  refine ow_iaload C dX7_remember_88 hh (fun v6 hh => ?_)
  refine ow_iconst (v := 1) C dX7_remember_89 rfl ?_
  refine ow_iadd C dX7_remember_90 ?_
  refine ow_iastore C dX7_remember_91 hh (fun h7 hh => ?_)
  exact ow_vret Z dX7_remember_92 trivial hh
def sm_X7_remember_15 (K15 : Nat → Int32 → aw_H → Prop) (Q : aw_R) (p0 : Nat) (x1 : Int32) (h : aw_H) : Prop :=
  if 595 ≤ x1 then (sg_R h p0 6 0 fun q1 => sa_I h q1 765 fun v2 => ss_I h q1 765 (v2 - 1) fun h3 => sm_X7_remember_59 K15 Q p0 h3) else (sg_R h p0 6 0 fun q4 => sg_R h p0 6 0 fun q5 => sa_I h q5 (170 + x1) fun v6 => ss_I h q4 (85 + x1) v6 fun h7 => K15 p0 (x1 + 1) h7)
set_option maxRecDepth 100000 in
set_option maxHeartbeats 4000000 in
theorem bl_X7_remember_15 {X : aw_X} {Q : aw_R} (C : aw_C X cX7_remember RX7 2 1) (Z : aw_Z X cX7_remember none Q) (p0 : Nat) (x1 : Int32) (h : aw_H) (hh : sm_X7_remember_15 (fun (p0 : Nat) (x1 : Int32) (h : aw_H) => Sat X 15 [.ref p0, .int x1] [] h) Q p0 x1 h) : Sat X 15 [.ref p0, .int x1] [] h := by
  unfold sm_X7_remember_15 at hh
  refine ow_iload_n C dX7_remember_15 rfl rfl ?_
  refine ow_sipush (v := 595) C dX7_remember_16 rfl ?_
  refine ow_icmp_ge (tgt := 47) C dX7_remember_19 (by decide) hh (fun hh => ?_) (fun hh => ?_)
  · skip
    refine ow_aload_n C dX7_remember_47 rfl rfl ?_
    refine ow_getR (ci := 6) (k := 0) (T := TX7) C rfl igX7 (by decide) kw_533 dX7_remember_48 hh (fun q1 hh => ?_)
    refine ow_sipush (v := 765) C dX7_remember_51 rfl ?_
    refine ow_dup2 C dX7_remember_54 rfl rfl ?_
    refine ow_iaload C dX7_remember_55 hh (fun v2 hh => ?_)
    refine ow_iconst (v := 1) C dX7_remember_56 rfl ?_
    refine ow_isub C dX7_remember_57 ?_
    refine ow_iastore C dX7_remember_58 hh (fun h3 hh => ?_)
    exact Sat.mask (bl_X7_remember_59 C Z p0 h3 hh) (mk_y (mk_n mk_0))
  · skip
    refine ow_aload_n C dX7_remember_22 rfl rfl ?_
    refine ow_getR (ci := 6) (k := 0) (T := TX7) C rfl igX7 (by decide) kw_533 dX7_remember_23 hh (fun q4 hh => ?_)
    refine ow_bipush (v := 85) C dX7_remember_26 rfl ?_
    refine ow_iload_n C dX7_remember_28 rfl rfl ?_
    refine ow_iadd C dX7_remember_29 ?_
    refine ow_aload_n C dX7_remember_30 rfl rfl ?_
    refine ow_getR (ci := 6) (k := 0) (T := TX7) C rfl igX7 (by decide) kw_533 dX7_remember_31 hh (fun q5 hh => ?_)
    refine ow_sipush (v := 170) C dX7_remember_34 rfl ?_
    refine ow_iload_n C dX7_remember_37 rfl rfl ?_
    refine ow_iadd C dX7_remember_38 ?_
    refine ow_iaload C dX7_remember_39 hh (fun v6 hh => ?_)
    refine ow_iastore C dX7_remember_40 hh (fun h7 hh => ?_)
    refine ow_iinc (v := x1 + 1) (L' := [.ref p0, .int (x1 + 1)]) C dX7_remember_41 rfl rfl (by decide) rfl ?_
    refine ow_goto (tgt := 15) C dX7_remember_44 (by decide) ?_
    exact Sat.mask hh (mk_y (mk_y mk_0))
def sm_X7_remember_0 (K15 : Nat → Int32 → aw_H → Prop) (Q : aw_R) (p0 : Nat) (h : aw_H) : Prop :=
  sg_R h p0 6 0 fun q1 => sa_I h q1 765 fun v2 => if ¬ v2 = 8 then (sm_X7_remember_59 K15 Q p0 h) else (K15 p0 0 h)
set_option maxRecDepth 100000 in
set_option maxHeartbeats 4000000 in
theorem bl_X7_remember_0 {X : aw_X} {Q : aw_R} (C : aw_C X cX7_remember RX7 2 1) (Z : aw_Z X cX7_remember none Q) (p0 : Nat) (h : aw_H) (hh : sm_X7_remember_0 (fun (p0 : Nat) (x1 : Int32) (h : aw_H) => Sat X 15 [.ref p0, .int x1] [] h) Q p0 h) : Sat X 0 [.ref p0, Value.null] [] h := by
  unfold sm_X7_remember_0 at hh
  refine ow_aload_n C dX7_remember_0 rfl rfl ?_
  refine ow_getR (ci := 6) (k := 0) (T := TX7) C rfl igX7 (by decide) kw_533 dX7_remember_1 hh (fun q1 hh => ?_)
  refine ow_sipush (v := 765) C dX7_remember_4 rfl ?_
  refine ow_iaload C dX7_remember_7 hh (fun v2 hh => ?_)
  refine ow_bipush (v := 8) C dX7_remember_8 rfl ?_
  refine ow_icmp_ne (tgt := 59) C dX7_remember_10 (by decide) hh (fun hh => ?_) (fun hh => ?_)
  · skip
    exact Sat.mask (bl_X7_remember_59 C Z p0 h hh) (mk_y (mk_n mk_0))
  · skip
    refine ow_iconst (v := 0) C dX7_remember_13 rfl ?_
    refine ow_istore_n (L' := [.ref p0, .int 0]) C dX7_remember_14 rfl (by decide) rfl ?_
    exact Sat.mask hh (mk_y (mk_y mk_0))
def tr_X7_remember : aw_T := fun as h Q => ∃ (p0 : Nat), as = [.ref p0] ∧ (∀ (K15 : Nat → Int32 → aw_H → Prop), (∀ (p0 : Nat) (x1 : Int32) (h : aw_H), sm_X7_remember_15 K15 Q p0 x1 h → K15 p0 x1 h) → sm_X7_remember_0 K15 Q p0 h)
theorem tq_X7_remember {p0 : Nat} {h : aw_H} {Q : aw_R} : tr_X7_remember [.ref p0] h Q ↔ (∀ (K15 : Nat → Int32 → aw_H → Prop), (∀ (p0 : Nat) (x1 : Int32) (h : aw_H), sm_X7_remember_15 K15 Q p0 x1 h → K15 p0 x1 h) → sm_X7_remember_0 K15 Q p0 h) := by
  constructor
  · rintro ⟨_, as0, hh⟩
    cases as0
    exact hh
  · intro hh
    exact ⟨_, rfl, hh⟩
theorem ct_X7_remember (E : aw_F) : CT E yX7_remember cX7_remember 2 none 1 tr_X7_remember := by
  refine ct_of (by decide) ?_
  intro X Q as h hE C Z hG
  subst hE
  obtain ⟨p0, rfl, hh⟩ := hG
  refine ⟨[.ref p0, Value.null], rfl, Nat.le_of_ble_eq_true rfl, ?_⟩
  exact bl_X7_remember_0 C Z p0 h (hh (fun (p0 : Nat) (x1 : Int32) (h : aw_H) => Sat X 15 [.ref p0, .int x1] [] h) (fun p0 x1 h hh => bl_X7_remember_15 C Z p0 x1 h hh))
theorem cv_X7_remember (E : aw_F) : CV E yX7_remember cX7_remember 2 none 1 0 6 tr_X7_remember := ⟨ct_X7_remember E, by decide, kw_654, kw_655, kw_527, kw_653, by decide +kernel, _, _, rfl⟩
theorem dX7_stepOn_0 : decode cX7_stepOn 0 = .ok (.aload_n 0, 1) := by decide +kernel
theorem dX7_stepOn_1 : decode cX7_stepOn 1 = .ok (.getfield 7, 3) := by decide +kernel
theorem dX7_stepOn_4 : decode cX7_stepOn 4 = .ok (.iconst 2, 1) := by decide +kernel
theorem dX7_stepOn_5 : decode cX7_stepOn 5 = .ok (.aload_n 0, 1) := by decide +kernel
theorem dX7_stepOn_6 : decode cX7_stepOn 6 = .ok (.iconst 0, 1) := by decide +kernel
theorem dX7_stepOn_7 : decode cX7_stepOn 7 = .ok (.aload_n 0, 1) := by decide +kernel
theorem dX7_stepOn_8 : decode cX7_stepOn 8 = .ok (.getfield 7, 3) := by decide +kernel
theorem dX7_stepOn_11 : decode cX7_stepOn 11 = .ok (.iconst 3, 1) := by decide +kernel
theorem dX7_stepOn_12 : decode cX7_stepOn 12 = .ok (.iaload, 1) := by decide +kernel
theorem dX7_stepOn_13 : decode cX7_stepOn 13 = .ok (.aload_n 0, 1) := by decide +kernel
theorem dX7_stepOn_14 : decode cX7_stepOn 14 = .ok (.getfield 7, 3) := by decide +kernel
theorem dX7_stepOn_17 : decode cX7_stepOn 17 = .ok (.iconst 2, 1) := by decide +kernel
theorem dX7_stepOn_18 : decode cX7_stepOn 18 = .ok (.iaload, 1) := by decide +kernel
theorem dX7_stepOn_19 : decode cX7_stepOn 19 = .ok (.invokevirtual 83, 3) := by decide +kernel
theorem dX7_stepOn_22 : decode cX7_stepOn 22 = .ok (.iastore, 1) := by decide +kernel
theorem dX7_stepOn_23 : decode cX7_stepOn 23 = .ok (.aload_n 0, 1) := by decide +kernel
theorem dX7_stepOn_24 : decode cX7_stepOn 24 = .ok (.getfield 7, 3) := by decide +kernel
theorem dX7_stepOn_27 : decode cX7_stepOn 27 = .ok (.iconst 3, 1) := by decide +kernel
theorem dX7_stepOn_28 : decode cX7_stepOn 28 = .ok (.dup2, 1) := by decide +kernel
theorem dX7_stepOn_29 : decode cX7_stepOn 29 = .ok (.iaload, 1) := by decide +kernel
theorem dX7_stepOn_30 : decode cX7_stepOn 30 = .ok (.iconst 1, 1) := by decide +kernel
theorem dX7_stepOn_31 : decode cX7_stepOn 31 = .ok (.iadd, 1) := by decide +kernel
theorem dX7_stepOn_32 : decode cX7_stepOn 32 = .ok (.iastore, 1) := by decide +kernel
theorem dX7_stepOn_33 : decode cX7_stepOn 33 = .ok (.return_, 1) := by decide +kernel
def sm_X7_stepOn_0  (Q : aw_R) (p0 : Nat) (h : aw_H) : Prop :=
  sg_R h p0 6 0 fun q1 => sg_R h p0 6 0 fun q2 => sa_I h q2 3 fun v3 => sg_R h p0 6 0 fun q4 => sa_I h q4 2 fun v5 => sv_O h p0 6 (tr_X7_doneIn [.ref p0, .int 0, .int v3, .int v5] h fun r7 h6 => sr_I r7 fun v8 => ss_I h6 q1 2 v8 fun h9 => sg_R h9 p0 6 0 fun q10 => sa_I h9 q10 3 fun v11 => ss_I h9 q10 3 (v11 + 1) fun h12 => Q none h12)
set_option maxRecDepth 100000 in
set_option maxHeartbeats 4000000 in
theorem bl_X7_stepOn_0 {X : aw_X} {Q : aw_R} (C : aw_C X cX7_stepOn RX7 1 4) (Z : aw_Z X cX7_stepOn none Q) (p0 : Nat) (h : aw_H) (hh : sm_X7_stepOn_0  Q p0 h) : Sat X 0 [.ref p0] [] h := by
  unfold sm_X7_stepOn_0 at hh
  refine ow_aload_n C dX7_stepOn_0 rfl rfl ?_
  refine ow_getR (ci := 6) (k := 0) (T := TX7) C rfl igX7 (by decide) kw_533 dX7_stepOn_1 hh (fun q1 hh => ?_)
  refine ow_iconst (v := 2) C dX7_stepOn_4 rfl ?_
  refine ow_aload_n C dX7_stepOn_5 rfl rfl ?_
  refine ow_iconst (v := 0) C dX7_stepOn_6 rfl ?_
  refine ow_aload_n C dX7_stepOn_7 rfl rfl ?_
  refine ow_getR (ci := 6) (k := 0) (T := TX7) C rfl igX7 (by decide) kw_533 dX7_stepOn_8 hh (fun q2 hh => ?_)
  refine ow_iconst (v := 3) C dX7_stepOn_11 rfl ?_
  refine ow_iaload C dX7_stepOn_12 hh (fun v3 hh => ?_)
  refine ow_aload_n C dX7_stepOn_13 rfl rfl ?_
  refine ow_getR (ci := 6) (k := 0) (T := TX7) C rfl igX7 (by decide) kw_533 dX7_stepOn_14 hh (fun q4 hh => ?_)
  refine ow_iconst (v := 2) C dX7_stepOn_17 rfl ?_
  refine ow_iaload C dX7_stepOn_18 hh (fun v5 hh => ?_)
  refine ow_callV C (cv_X7_doneIn _) (Nat.le_of_ble_eq_true rfl) kw_587 dX7_stepOn_19 (as := [.int 0, .int v3, .int v5]) (st := [.int 2, .ref q1]) rfl rfl (Nat.le_of_ble_eq_true rfl) hh (fun r7 h6 hq => ?_)
  obtain ⟨v8, rfl, hh⟩ := sr_I_e hq
  show Sat X 22 [.ref p0] [.int v8, .int 2, .ref q1] h6
  refine ow_iastore C dX7_stepOn_22 hh (fun h9 hh => ?_)
  refine ow_aload_n C dX7_stepOn_23 rfl rfl ?_
  refine ow_getR (ci := 6) (k := 0) (T := TX7) C rfl igX7 (by decide) kw_533 dX7_stepOn_24 hh (fun q10 hh => ?_)
  refine ow_iconst (v := 3) C dX7_stepOn_27 rfl ?_
  refine ow_dup2 C dX7_stepOn_28 rfl rfl ?_
  refine ow_iaload C dX7_stepOn_29 hh (fun v11 hh => ?_)
  refine ow_iconst (v := 1) C dX7_stepOn_30 rfl ?_
  refine ow_iadd C dX7_stepOn_31 ?_
  refine ow_iastore C dX7_stepOn_32 hh (fun h12 hh => ?_)
  exact ow_vret Z dX7_stepOn_33 trivial hh
def tr_X7_stepOn : aw_T := fun as h Q => ∃ (p0 : Nat), as = [.ref p0] ∧ (sm_X7_stepOn_0  Q p0 h)
theorem tq_X7_stepOn {p0 : Nat} {h : aw_H} {Q : aw_R} : tr_X7_stepOn [.ref p0] h Q ↔ (sm_X7_stepOn_0  Q p0 h) := by
  constructor
  · rintro ⟨_, as0, hh⟩
    cases as0
    exact hh
  · intro hh
    exact ⟨_, rfl, hh⟩
theorem ct_X7_stepOn (E : aw_F) : CT E yX7_stepOn cX7_stepOn 1 none 4 tr_X7_stepOn := by
  refine ct_of (by decide) ?_
  intro X Q as h hE C Z hG
  subst hE
  obtain ⟨p0, rfl, hh⟩ := hG
  refine ⟨[.ref p0], rfl, Nat.le_of_ble_eq_true rfl, ?_⟩
  exact bl_X7_stepOn_0 C Z p0 h hh
theorem cv_X7_stepOn (E : aw_F) : CV E yX7_stepOn cX7_stepOn 1 none 4 0 6 tr_X7_stepOn := ⟨ct_X7_stepOn E, by decide, kw_657, kw_658, kw_527, kw_656, by decide +kernel, _, _, rfl⟩
theorem dX7_step_0 : decode cX7_step 0 = .ok (.iload_n 1, 1) := by decide +kernel
theorem dX7_step_1 : decode cX7_step 1 = .ok (.iconst 1, 1) := by decide +kernel
theorem dX7_step_2 : decode cX7_step 2 = .ok (.bipush 16, 2) := by decide +kernel
theorem dX7_step_4 : decode cX7_step 4 = .ok (.invokestatic 42, 3) := by decide +kernel
theorem dX7_step_7 : decode cX7_step 7 = .ok (.ifCond .ne 5, 3) := by decide +kernel
theorem dX7_step_10 : decode cX7_step 10 = .ok (.iconst (-1), 1) := by decide +kernel
theorem dX7_step_11 : decode cX7_step 11 = .ok (.ireturn, 1) := by decide +kernel
theorem dX7_step_12 : decode cX7_step 12 = .ok (.aload_n 0, 1) := by decide +kernel
theorem dX7_step_13 : decode cX7_step 13 = .ok (.getfield 7, 3) := by decide +kernel
theorem dX7_step_16 : decode cX7_step 16 = .ok (.iconst 3, 1) := by decide +kernel
theorem dX7_step_17 : decode cX7_step 17 = .ok (.iaload, 1) := by decide +kernel
theorem dX7_step_18 : decode cX7_step 18 = .ok (.iload_n 1, 1) := by decide +kernel
theorem dX7_step_19 : decode cX7_step 19 = .ok (.iadd, 1) := by decide +kernel
theorem dX7_step_20 : decode cX7_step 20 = .ok (.aload_n 0, 1) := by decide +kernel
theorem dX7_step_21 : decode cX7_step 21 = .ok (.getfield 7, 3) := by decide +kernel
theorem dX7_step_24 : decode cX7_step 24 = .ok (.iconst 1, 1) := by decide +kernel
theorem dX7_step_25 : decode cX7_step 25 = .ok (.iaload, 1) := by decide +kernel
theorem dX7_step_26 : decode cX7_step 26 = .ok (.if_icmp .le 6, 3) := by decide +kernel
theorem dX7_step_29 : decode cX7_step 29 = .ok (.bipush (-2), 2) := by decide +kernel
theorem dX7_step_31 : decode cX7_step 31 = .ok (.ireturn, 1) := by decide +kernel
theorem dX7_step_32 : decode cX7_step 32 = .ok (.iconst 0, 1) := by decide +kernel
theorem dX7_step_33 : decode cX7_step 33 = .ok (.istore_n 2, 1) := by decide +kernel
theorem dX7_step_34 : decode cX7_step 34 = .ok (.iload_n 2, 1) := by decide +kernel
theorem dX7_step_35 : decode cX7_step 35 = .ok (.iload_n 1, 1) := by decide +kernel
theorem dX7_step_36 : decode cX7_step 36 = .ok (.if_icmp .ge 17, 3) := by decide +kernel
theorem dX7_step_39 : decode cX7_step 39 = .ok (.aload_n 0, 1) := by decide +kernel
theorem dX7_step_40 : decode cX7_step 40 = .ok (.invokevirtual 144, 3) := by decide +kernel
theorem dX7_step_43 : decode cX7_step 43 = .ok (.aload_n 0, 1) := by decide +kernel
theorem dX7_step_44 : decode cX7_step 44 = .ok (.invokevirtual 147, 3) := by decide +kernel
theorem dX7_step_47 : decode cX7_step 47 = .ok (.iinc 2 1, 3) := by decide +kernel
theorem dX7_step_50 : decode cX7_step 50 = .ok (.goto (-16), 3) := by decide +kernel
theorem dX7_step_53 : decode cX7_step 53 = .ok (.aload_n 0, 1) := by decide +kernel
theorem dX7_step_54 : decode cX7_step 54 = .ok (.getfield 7, 3) := by decide +kernel
theorem dX7_step_57 : decode cX7_step 57 = .ok (.iconst 2, 1) := by decide +kernel
theorem dX7_step_58 : decode cX7_step 58 = .ok (.iaload, 1) := by decide +kernel
theorem dX7_step_59 : decode cX7_step 59 = .ok (.ireturn, 1) := by decide +kernel
def sm_X7_step_34 (K34 : Nat → Int32 → Int32 → aw_H → Prop) (Q : aw_R) (p0 : Nat) (x1 : Int32) (x2 : Int32) (h : aw_H) : Prop :=
  if x1 ≤ x2 then (sg_R h p0 6 0 fun q1 => sa_I h q1 2 fun v2 => Q (some (.int v2)) h) else (sv_O h p0 6 (tr_X7_remember [.ref p0] h fun r4 h3 => sr_V r4 <| sv_O h3 p0 6 (tr_X7_stepOn [.ref p0] h3 fun r6 h5 => sr_V r6 <| K34 p0 x1 (x2 + 1) h5)))
set_option maxRecDepth 100000 in
set_option maxHeartbeats 4000000 in
theorem bl_X7_step_34 {X : aw_X} {Q : aw_R} (C : aw_C X cX7_step RX7 3 5) (Z : aw_Z X cX7_step (some .int) Q) (p0 : Nat) (x1 : Int32) (x2 : Int32) (h : aw_H) (hh : sm_X7_step_34 (fun (p0 : Nat) (x1 : Int32) (x2 : Int32) (h : aw_H) => Sat X 34 [.ref p0, .int x1, .int x2] [] h) Q p0 x1 x2 h) : Sat X 34 [.ref p0, .int x1, .int x2] [] h := by
  unfold sm_X7_step_34 at hh
  refine ow_iload_n C dX7_step_34 rfl rfl ?_
  refine ow_iload_n C dX7_step_35 rfl rfl ?_
  refine ow_icmp_ge (tgt := 53) C dX7_step_36 (by decide) hh (fun hh => ?_) (fun hh => ?_)
  · skip
    refine ow_aload_n C dX7_step_53 rfl rfl ?_
    refine ow_getR (ci := 6) (k := 0) (T := TX7) C rfl igX7 (by decide) kw_533 dX7_step_54 hh (fun q1 hh => ?_)
    refine ow_iconst (v := 2) C dX7_step_57 rfl ?_
    refine ow_iaload C dX7_step_58 hh (fun v2 hh => ?_)
    exact ow_iret Z dX7_step_59 trivial hh
  · skip
    refine ow_aload_n C dX7_step_39 rfl rfl ?_
    refine ow_callV C (cv_X7_remember _) (Nat.le_of_ble_eq_true rfl) kw_659 dX7_step_40 (as := []) (st := []) rfl rfl (Nat.le_of_ble_eq_true rfl) hh (fun r4 h3 hq => ?_)
    obtain ⟨rfl, hh⟩ := sr_V_e hq
    show Sat X 43 [.ref p0, .int x1, .int x2] [] h3
    refine ow_aload_n C dX7_step_43 rfl rfl ?_
    refine ow_callV C (cv_X7_stepOn _) (Nat.le_of_ble_eq_true rfl) kw_660 dX7_step_44 (as := []) (st := []) rfl rfl (Nat.le_of_ble_eq_true rfl) hh (fun r6 h5 hq => ?_)
    obtain ⟨rfl, hh⟩ := sr_V_e hq
    show Sat X 47 [.ref p0, .int x1, .int x2] [] h5
    refine ow_iinc (v := x2 + 1) (L' := [.ref p0, .int x1, .int (x2 + 1)]) C dX7_step_47 rfl rfl (by decide) rfl ?_
    refine ow_goto (tgt := 34) C dX7_step_50 (by decide) ?_
    exact Sat.mask hh (mk_y (mk_y (mk_y mk_0)))
def sm_X7_step_0 (K34 : Nat → Int32 → Int32 → aw_H → Prop) (Q : aw_R) (p0 : Nat) (x1 : Int32) (h : aw_H) : Prop :=
  tr_X7_in [.int x1, .int 1, .int 16] h fun r2 h1 => sr_I r2 fun v3 => if ¬ v3 = 0 then (sg_R h1 p0 6 0 fun q4 => sa_I h1 q4 3 fun v5 => sg_R h1 p0 6 0 fun q6 => sa_I h1 q6 1 fun v7 => if (v5 + x1) ≤ v7 then (K34 p0 x1 0 h1) else (Q (some (.int ((-2)))) h1)) else (Q (some (.int ((-1)))) h1)
set_option maxRecDepth 100000 in
set_option maxHeartbeats 4000000 in
theorem bl_X7_step_0 {X : aw_X} {Q : aw_R} (C : aw_C X cX7_step RX7 3 5) (Z : aw_Z X cX7_step (some .int) Q) (p0 : Nat) (x1 : Int32) (h : aw_H) (hh : sm_X7_step_0 (fun (p0 : Nat) (x1 : Int32) (x2 : Int32) (h : aw_H) => Sat X 34 [.ref p0, .int x1, .int x2] [] h) Q p0 x1 h) : Sat X 0 [.ref p0, .int x1, Value.null] [] h := by
  unfold sm_X7_step_0 at hh
  refine ow_iload_n C dX7_step_0 rfl rfl ?_
  refine ow_iconst (v := 1) C dX7_step_1 rfl ?_
  refine ow_bipush (v := 16) C dX7_step_2 rfl ?_
  refine ow_callS C (cs_X7_in _) (Nat.le_of_ble_eq_true rfl) kw_541 dX7_step_4 (as := [.int x1, .int 1, .int 16]) (st := []) rfl rfl (Nat.le_of_ble_eq_true rfl) hh (fun r2 h1 hq => ?_)
  obtain ⟨v3, rfl, hh⟩ := sr_I_e hq
  show Sat X 7 [.ref p0, .int x1, Value.null] [.int v3] h1
  refine ow_if_ne (tgt := 12) C dX7_step_7 (by decide) hh (fun hh => ?_) (fun hh => ?_)
  · skip
    refine ow_aload_n C dX7_step_12 rfl rfl ?_
    refine ow_getR (ci := 6) (k := 0) (T := TX7) C rfl igX7 (by decide) kw_533 dX7_step_13 hh (fun q4 hh => ?_)
    refine ow_iconst (v := 3) C dX7_step_16 rfl ?_
    refine ow_iaload C dX7_step_17 hh (fun v5 hh => ?_)
    refine ow_iload_n C dX7_step_18 rfl rfl ?_
    refine ow_iadd C dX7_step_19 ?_
    refine ow_aload_n C dX7_step_20 rfl rfl ?_
    refine ow_getR (ci := 6) (k := 0) (T := TX7) C rfl igX7 (by decide) kw_533 dX7_step_21 hh (fun q6 hh => ?_)
    refine ow_iconst (v := 1) C dX7_step_24 rfl ?_
    refine ow_iaload C dX7_step_25 hh (fun v7 hh => ?_)
    refine ow_icmp_le (tgt := 32) C dX7_step_26 (by decide) hh (fun hh => ?_) (fun hh => ?_)
    · skip
      refine ow_iconst (v := 0) C dX7_step_32 rfl ?_
      refine ow_istore_n (L' := [.ref p0, .int x1, .int 0]) C dX7_step_33 rfl (by decide) rfl ?_
      exact Sat.mask hh (mk_y (mk_y (mk_y mk_0)))
    · skip
      refine ow_bipush (v := (-2)) C dX7_step_29 rfl ?_
      exact ow_iret Z dX7_step_31 trivial hh
  · skip
    refine ow_iconst (v := (-1)) C dX7_step_10 rfl ?_
    exact ow_iret Z dX7_step_11 trivial hh
def tr_X7_step : aw_T := fun as h Q => ∃ (p0 : Nat) (x1 : Int32), as = [.ref p0, .int x1] ∧ (∀ (K34 : Nat → Int32 → Int32 → aw_H → Prop), (∀ (p0 : Nat) (x1 : Int32) (x2 : Int32) (h : aw_H), sm_X7_step_34 K34 Q p0 x1 x2 h → K34 p0 x1 x2 h) → sm_X7_step_0 K34 Q p0 x1 h)
theorem tq_X7_step {p0 : Nat} {x1 : Int32} {h : aw_H} {Q : aw_R} : tr_X7_step [.ref p0, .int x1] h Q ↔ (∀ (K34 : Nat → Int32 → Int32 → aw_H → Prop), (∀ (p0 : Nat) (x1 : Int32) (x2 : Int32) (h : aw_H), sm_X7_step_34 K34 Q p0 x1 x2 h → K34 p0 x1 x2 h) → sm_X7_step_0 K34 Q p0 x1 h) := by
  constructor
  · rintro ⟨_, _, as0, hh⟩
    cases as0
    exact hh
  · intro hh
    exact ⟨_, _, rfl, hh⟩
theorem ct_X7_step (E : aw_F) : CT E yX7_step cX7_step 3 (some .int) 5 tr_X7_step := by
  refine ct_of (by decide) ?_
  intro X Q as h hE C Z hG
  subst hE
  obtain ⟨p0, x1, rfl, hh⟩ := hG
  refine ⟨[.ref p0, .int x1, Value.null], rfl, Nat.le_of_ble_eq_true rfl, ?_⟩
  exact bl_X7_step_0 C Z p0 x1 h (hh (fun (p0 : Nat) (x1 : Int32) (x2 : Int32) (h : aw_H) => Sat X 34 [.ref p0, .int x1, .int x2] [] h) (fun p0 x1 x2 h hh => bl_X7_step_34 C Z p0 x1 x2 h hh))
theorem cv_X7_step (E : aw_F) : CV E yX7_step cX7_step 3 (some .int) 5 1 6 tr_X7_step := ⟨ct_X7_step E, by decide, kw_662, kw_663, kw_527, kw_661, by decide +kernel, _, _, rfl⟩
theorem dX7_back_0 : decode cX7_back 0 = .ok (.iload_n 1, 1) := by decide +kernel
theorem dX7_back_1 : decode cX7_back 1 = .ok (.iconst 1, 1) := by decide +kernel
theorem dX7_back_2 : decode cX7_back 2 = .ok (.bipush 16, 2) := by decide +kernel
theorem dX7_back_4 : decode cX7_back 4 = .ok (.invokestatic 42, 3) := by decide +kernel
theorem dX7_back_7 : decode cX7_back 7 = .ok (.ifCond .ne 5, 3) := by decide +kernel
theorem dX7_back_10 : decode cX7_back 10 = .ok (.iconst (-1), 1) := by decide +kernel
theorem dX7_back_11 : decode cX7_back 11 = .ok (.ireturn, 1) := by decide +kernel
theorem dX7_back_12 : decode cX7_back 12 = .ok (.aload_n 0, 1) := by decide +kernel
theorem dX7_back_13 : decode cX7_back 13 = .ok (.getfield 7, 3) := by decide +kernel
theorem dX7_back_16 : decode cX7_back 16 = .ok (.iconst 3, 1) := by decide +kernel
theorem dX7_back_17 : decode cX7_back 17 = .ok (.iaload, 1) := by decide +kernel
theorem dX7_back_18 : decode cX7_back 18 = .ok (.iload_n 1, 1) := by decide +kernel
theorem dX7_back_19 : decode cX7_back 19 = .ok (.if_icmp .ge 6, 3) := by decide +kernel
theorem dX7_back_22 : decode cX7_back 22 = .ok (.bipush (-2), 2) := by decide +kernel
theorem dX7_back_24 : decode cX7_back 24 = .ok (.ireturn, 1) := by decide +kernel
theorem dX7_back_25 : decode cX7_back 25 = .ok (.iconst 0, 1) := by decide +kernel
theorem dX7_back_26 : decode cX7_back 26 = .ok (.istore_n 2, 1) := by decide +kernel
theorem dX7_back_27 : decode cX7_back 27 = .ok (.iload_n 2, 1) := by decide +kernel
theorem dX7_back_28 : decode cX7_back 28 = .ok (.iload_n 1, 1) := by decide +kernel
theorem dX7_back_29 : decode cX7_back 29 = .ok (.if_icmp .ge 46, 3) := by decide +kernel
theorem dX7_back_32 : decode cX7_back 32 = .ok (.aload_n 0, 1) := by decide +kernel
theorem dX7_back_33 : decode cX7_back 33 = .ok (.invokevirtual 144, 3) := by decide +kernel
theorem dX7_back_36 : decode cX7_back 36 = .ok (.aload_n 0, 1) := by decide +kernel
theorem dX7_back_37 : decode cX7_back 37 = .ok (.getfield 7, 3) := by decide +kernel
theorem dX7_back_40 : decode cX7_back 40 = .ok (.iconst 3, 1) := by decide +kernel
theorem dX7_back_41 : decode cX7_back 41 = .ok (.dup2, 1) := by decide +kernel
theorem dX7_back_42 : decode cX7_back 42 = .ok (.iaload, 1) := by decide +kernel
theorem dX7_back_43 : decode cX7_back 43 = .ok (.iconst 1, 1) := by decide +kernel
theorem dX7_back_44 : decode cX7_back 44 = .ok (.isub, 1) := by decide +kernel
theorem dX7_back_45 : decode cX7_back 45 = .ok (.iastore, 1) := by decide +kernel
theorem dX7_back_46 : decode cX7_back 46 = .ok (.aload_n 0, 1) := by decide +kernel
theorem dX7_back_47 : decode cX7_back 47 = .ok (.getfield 7, 3) := by decide +kernel
theorem dX7_back_50 : decode cX7_back 50 = .ok (.iconst 2, 1) := by decide +kernel
theorem dX7_back_51 : decode cX7_back 51 = .ok (.aload_n 0, 1) := by decide +kernel
theorem dX7_back_52 : decode cX7_back 52 = .ok (.iconst 0, 1) := by decide +kernel
theorem dX7_back_53 : decode cX7_back 53 = .ok (.aload_n 0, 1) := by decide +kernel
theorem dX7_back_54 : decode cX7_back 54 = .ok (.getfield 7, 3) := by decide +kernel
theorem dX7_back_57 : decode cX7_back 57 = .ok (.iconst 3, 1) := by decide +kernel
theorem dX7_back_58 : decode cX7_back 58 = .ok (.iaload, 1) := by decide +kernel
theorem dX7_back_59 : decode cX7_back 59 = .ok (.aload_n 0, 1) := by decide +kernel
theorem dX7_back_60 : decode cX7_back 60 = .ok (.getfield 7, 3) := by decide +kernel
theorem dX7_back_63 : decode cX7_back 63 = .ok (.iconst 2, 1) := by decide +kernel
theorem dX7_back_64 : decode cX7_back 64 = .ok (.iaload, 1) := by decide +kernel
theorem dX7_back_65 : decode cX7_back 65 = .ok (.invokevirtual 83, 3) := by decide +kernel
theorem dX7_back_68 : decode cX7_back 68 = .ok (.iastore, 1) := by decide +kernel
theorem dX7_back_69 : decode cX7_back 69 = .ok (.iinc 2 1, 3) := by decide +kernel
theorem dX7_back_72 : decode cX7_back 72 = .ok (.goto (-45), 3) := by decide +kernel
theorem dX7_back_75 : decode cX7_back 75 = .ok (.aload_n 0, 1) := by decide +kernel
theorem dX7_back_76 : decode cX7_back 76 = .ok (.getfield 7, 3) := by decide +kernel
theorem dX7_back_79 : decode cX7_back 79 = .ok (.iconst 2, 1) := by decide +kernel
theorem dX7_back_80 : decode cX7_back 80 = .ok (.iaload, 1) := by decide +kernel
theorem dX7_back_81 : decode cX7_back 81 = .ok (.ireturn, 1) := by decide +kernel
def sm_X7_back_27 (K27 : Nat → Int32 → Int32 → aw_H → Prop) (Q : aw_R) (p0 : Nat) (x1 : Int32) (x2 : Int32) (h : aw_H) : Prop :=
  if x1 ≤ x2 then (sg_R h p0 6 0 fun q1 => sa_I h q1 2 fun v2 => Q (some (.int v2)) h) else (sv_O h p0 6 (tr_X7_remember [.ref p0] h fun r4 h3 => sr_V r4 <| sg_R h3 p0 6 0 fun q5 => sa_I h3 q5 3 fun v6 => ss_I h3 q5 3 (v6 - 1) fun h7 => sg_R h7 p0 6 0 fun q8 => sg_R h7 p0 6 0 fun q9 => sa_I h7 q9 3 fun v10 => sg_R h7 p0 6 0 fun q11 => sa_I h7 q11 2 fun v12 => sv_O h7 p0 6 (tr_X7_doneIn [.ref p0, .int 0, .int v10, .int v12] h7 fun r14 h13 => sr_I r14 fun v15 => ss_I h13 q8 2 v15 fun h16 => K27 p0 x1 (x2 + 1) h16)))
set_option maxRecDepth 100000 in
set_option maxHeartbeats 4000000 in
theorem bl_X7_back_27 {X : aw_X} {Q : aw_R} (C : aw_C X cX7_back RX7 3 4) (Z : aw_Z X cX7_back (some .int) Q) (p0 : Nat) (x1 : Int32) (x2 : Int32) (h : aw_H) (hh : sm_X7_back_27 (fun (p0 : Nat) (x1 : Int32) (x2 : Int32) (h : aw_H) => Sat X 27 [.ref p0, .int x1, .int x2] [] h) Q p0 x1 x2 h) : Sat X 27 [.ref p0, .int x1, .int x2] [] h := by
  unfold sm_X7_back_27 at hh
  refine ow_iload_n C dX7_back_27 rfl rfl ?_
  refine ow_iload_n C dX7_back_28 rfl rfl ?_
  refine ow_icmp_ge (tgt := 75) C dX7_back_29 (by decide) hh (fun hh => ?_) (fun hh => ?_)
  · skip
    refine ow_aload_n C dX7_back_75 rfl rfl ?_
    refine ow_getR (ci := 6) (k := 0) (T := TX7) C rfl igX7 (by decide) kw_533 dX7_back_76 hh (fun q1 hh => ?_)
    refine ow_iconst (v := 2) C dX7_back_79 rfl ?_
    refine ow_iaload C dX7_back_80 hh (fun v2 hh => ?_)
    exact ow_iret Z dX7_back_81 trivial hh
  · skip
    refine ow_aload_n C dX7_back_32 rfl rfl ?_
    refine ow_callV C (cv_X7_remember _) (Nat.le_of_ble_eq_true rfl) kw_659 dX7_back_33 (as := []) (st := []) rfl rfl (Nat.le_of_ble_eq_true rfl) hh (fun r4 h3 hq => ?_)
    obtain ⟨rfl, hh⟩ := sr_V_e hq
    show Sat X 36 [.ref p0, .int x1, .int x2] [] h3
    refine ow_aload_n C dX7_back_36 rfl rfl ?_
    refine ow_getR (ci := 6) (k := 0) (T := TX7) C rfl igX7 (by decide) kw_533 dX7_back_37 hh (fun q5 hh => ?_)
    refine ow_iconst (v := 3) C dX7_back_40 rfl ?_
    refine ow_dup2 C dX7_back_41 rfl rfl ?_
    refine ow_iaload C dX7_back_42 hh (fun v6 hh => ?_)
    refine ow_iconst (v := 1) C dX7_back_43 rfl ?_
    refine ow_isub C dX7_back_44 ?_
    refine ow_iastore C dX7_back_45 hh (fun h7 hh => ?_)
    refine ow_aload_n C dX7_back_46 rfl rfl ?_
    refine ow_getR (ci := 6) (k := 0) (T := TX7) C rfl igX7 (by decide) kw_533 dX7_back_47 hh (fun q8 hh => ?_)
    refine ow_iconst (v := 2) C dX7_back_50 rfl ?_
    refine ow_aload_n C dX7_back_51 rfl rfl ?_
    refine ow_iconst (v := 0) C dX7_back_52 rfl ?_
    refine ow_aload_n C dX7_back_53 rfl rfl ?_
    refine ow_getR (ci := 6) (k := 0) (T := TX7) C rfl igX7 (by decide) kw_533 dX7_back_54 hh (fun q9 hh => ?_)
    refine ow_iconst (v := 3) C dX7_back_57 rfl ?_
    refine ow_iaload C dX7_back_58 hh (fun v10 hh => ?_)
    refine ow_aload_n C dX7_back_59 rfl rfl ?_
    refine ow_getR (ci := 6) (k := 0) (T := TX7) C rfl igX7 (by decide) kw_533 dX7_back_60 hh (fun q11 hh => ?_)
    refine ow_iconst (v := 2) C dX7_back_63 rfl ?_
    refine ow_iaload C dX7_back_64 hh (fun v12 hh => ?_)
    refine ow_callV C (cv_X7_doneIn _) (Nat.le_of_ble_eq_true rfl) kw_587 dX7_back_65 (as := [.int 0, .int v10, .int v12]) (st := [.int 2, .ref q8]) rfl rfl (Nat.le_of_ble_eq_true rfl) hh (fun r14 h13 hq => ?_)
    obtain ⟨v15, rfl, hh⟩ := sr_I_e hq
    show Sat X 68 [.ref p0, .int x1, .int x2] [.int v15, .int 2, .ref q8] h13
    refine ow_iastore C dX7_back_68 hh (fun h16 hh => ?_)
    refine ow_iinc (v := x2 + 1) (L' := [.ref p0, .int x1, .int (x2 + 1)]) C dX7_back_69 rfl rfl (by decide) rfl ?_
    refine ow_goto (tgt := 27) C dX7_back_72 (by decide) ?_
    exact Sat.mask hh (mk_y (mk_y (mk_y mk_0)))
def sm_X7_back_0 (K27 : Nat → Int32 → Int32 → aw_H → Prop) (Q : aw_R) (p0 : Nat) (x1 : Int32) (h : aw_H) : Prop :=
  tr_X7_in [.int x1, .int 1, .int 16] h fun r2 h1 => sr_I r2 fun v3 => if ¬ v3 = 0 then (sg_R h1 p0 6 0 fun q4 => sa_I h1 q4 3 fun v5 => if x1 ≤ v5 then (K27 p0 x1 0 h1) else (Q (some (.int ((-2)))) h1)) else (Q (some (.int ((-1)))) h1)
set_option maxRecDepth 100000 in
set_option maxHeartbeats 4000000 in
theorem bl_X7_back_0 {X : aw_X} {Q : aw_R} (C : aw_C X cX7_back RX7 3 4) (Z : aw_Z X cX7_back (some .int) Q) (p0 : Nat) (x1 : Int32) (h : aw_H) (hh : sm_X7_back_0 (fun (p0 : Nat) (x1 : Int32) (x2 : Int32) (h : aw_H) => Sat X 27 [.ref p0, .int x1, .int x2] [] h) Q p0 x1 h) : Sat X 0 [.ref p0, .int x1, Value.null] [] h := by
  unfold sm_X7_back_0 at hh
  refine ow_iload_n C dX7_back_0 rfl rfl ?_
  refine ow_iconst (v := 1) C dX7_back_1 rfl ?_
  refine ow_bipush (v := 16) C dX7_back_2 rfl ?_
  refine ow_callS C (cs_X7_in _) (Nat.le_of_ble_eq_true rfl) kw_541 dX7_back_4 (as := [.int x1, .int 1, .int 16]) (st := []) rfl rfl (Nat.le_of_ble_eq_true rfl) hh (fun r2 h1 hq => ?_)
  obtain ⟨v3, rfl, hh⟩ := sr_I_e hq
  show Sat X 7 [.ref p0, .int x1, Value.null] [.int v3] h1
  refine ow_if_ne (tgt := 12) C dX7_back_7 (by decide) hh (fun hh => ?_) (fun hh => ?_)
  · skip
    refine ow_aload_n C dX7_back_12 rfl rfl ?_
    refine ow_getR (ci := 6) (k := 0) (T := TX7) C rfl igX7 (by decide) kw_533 dX7_back_13 hh (fun q4 hh => ?_)
    refine ow_iconst (v := 3) C dX7_back_16 rfl ?_
    refine ow_iaload C dX7_back_17 hh (fun v5 hh => ?_)
    refine ow_iload_n C dX7_back_18 rfl rfl ?_
    refine ow_icmp_ge (tgt := 25) C dX7_back_19 (by decide) hh (fun hh => ?_) (fun hh => ?_)
    · skip
      refine ow_iconst (v := 0) C dX7_back_25 rfl ?_
      refine ow_istore_n (L' := [.ref p0, .int x1, .int 0]) C dX7_back_26 rfl (by decide) rfl ?_
      exact Sat.mask hh (mk_y (mk_y (mk_y mk_0)))
    · skip
      refine ow_bipush (v := (-2)) C dX7_back_22 rfl ?_
      exact ow_iret Z dX7_back_24 trivial hh
  · skip
    refine ow_iconst (v := (-1)) C dX7_back_10 rfl ?_
    exact ow_iret Z dX7_back_11 trivial hh
def tr_X7_back : aw_T := fun as h Q => ∃ (p0 : Nat) (x1 : Int32), as = [.ref p0, .int x1] ∧ (∀ (K27 : Nat → Int32 → Int32 → aw_H → Prop), (∀ (p0 : Nat) (x1 : Int32) (x2 : Int32) (h : aw_H), sm_X7_back_27 K27 Q p0 x1 x2 h → K27 p0 x1 x2 h) → sm_X7_back_0 K27 Q p0 x1 h)
theorem tq_X7_back {p0 : Nat} {x1 : Int32} {h : aw_H} {Q : aw_R} : tr_X7_back [.ref p0, .int x1] h Q ↔ (∀ (K27 : Nat → Int32 → Int32 → aw_H → Prop), (∀ (p0 : Nat) (x1 : Int32) (x2 : Int32) (h : aw_H), sm_X7_back_27 K27 Q p0 x1 x2 h → K27 p0 x1 x2 h) → sm_X7_back_0 K27 Q p0 x1 h) := by
  constructor
  · rintro ⟨_, _, as0, hh⟩
    cases as0
    exact hh
  · intro hh
    exact ⟨_, _, rfl, hh⟩
theorem ct_X7_back (E : aw_F) : CT E yX7_back cX7_back 3 (some .int) 4 tr_X7_back := by
  refine ct_of (by decide) ?_
  intro X Q as h hE C Z hG
  subst hE
  obtain ⟨p0, x1, rfl, hh⟩ := hG
  refine ⟨[.ref p0, .int x1, Value.null], rfl, Nat.le_of_ble_eq_true rfl, ?_⟩
  exact bl_X7_back_0 C Z p0 x1 h (hh (fun (p0 : Nat) (x1 : Int32) (x2 : Int32) (h : aw_H) => Sat X 27 [.ref p0, .int x1, .int x2] [] h) (fun p0 x1 x2 h hh => bl_X7_back_27 C Z p0 x1 x2 h hh))
theorem cv_X7_back (E : aw_F) : CV E yX7_back cX7_back 3 (some .int) 4 1 6 tr_X7_back := ⟨ct_X7_back E, by decide, kw_665, kw_666, kw_527, kw_664, by decide +kernel, _, _, rfl⟩
theorem dX7_home_0 : decode cX7_home 0 = .ok (.aload_n 0, 1) := by decide +kernel
theorem dX7_home_1 : decode cX7_home 1 = .ok (.getfield 7, 3) := by decide +kernel
theorem dX7_home_4 : decode cX7_home 4 = .ok (.iconst 3, 1) := by decide +kernel
theorem dX7_home_5 : decode cX7_home 5 = .ok (.iaload, 1) := by decide +kernel
theorem dX7_home_6 : decode cX7_home 6 = .ok (.ifCond .ne 6, 3) := by decide +kernel
theorem dX7_home_9 : decode cX7_home 9 = .ok (.bipush (-2), 2) := by decide +kernel
theorem dX7_home_11 : decode cX7_home 11 = .ok (.ireturn, 1) := by decide +kernel
theorem dX7_home_12 : decode cX7_home 12 = .ok (.aload_n 0, 1) := by decide +kernel
theorem dX7_home_13 : decode cX7_home 13 = .ok (.invokevirtual 144, 3) := by decide +kernel
theorem dX7_home_16 : decode cX7_home 16 = .ok (.aload_n 0, 1) := by decide +kernel
theorem dX7_home_17 : decode cX7_home 17 = .ok (.getfield 7, 3) := by decide +kernel
theorem dX7_home_20 : decode cX7_home 20 = .ok (.iconst 3, 1) := by decide +kernel
theorem dX7_home_21 : decode cX7_home 21 = .ok (.iaload, 1) := by decide +kernel
theorem dX7_home_22 : decode cX7_home 22 = .ok (.istore_n 1, 1) := by decide +kernel
theorem dX7_home_23 : decode cX7_home 23 = .ok (.aload_n 0, 1) := by decide +kernel
theorem dX7_home_24 : decode cX7_home 24 = .ok (.getfield 7, 3) := by decide +kernel
theorem dX7_home_27 : decode cX7_home 27 = .ok (.iconst 3, 1) := by decide +kernel
theorem dX7_home_28 : decode cX7_home 28 = .ok (.iconst 0, 1) := by decide +kernel
theorem dX7_home_29 : decode cX7_home 29 = .ok (.iastore, 1) := by decide +kernel
theorem dX7_home_30 : decode cX7_home 30 = .ok (.iload_n 1, 1) := by decide +kernel
theorem dX7_home_31 : decode cX7_home 31 = .ok (.ireturn, 1) := by decide +kernel
def sm_X7_home_0  (Q : aw_R) (p0 : Nat) (h : aw_H) : Prop :=
  sg_R h p0 6 0 fun q1 => sa_I h q1 3 fun v2 => if ¬ v2 = 0 then (sv_O h p0 6 (tr_X7_remember [.ref p0] h fun r4 h3 => sr_V r4 <| sg_R h3 p0 6 0 fun q5 => sa_I h3 q5 3 fun v6 => sg_R h3 p0 6 0 fun q7 => ss_I h3 q7 3 0 fun h8 => Q (some (.int v6)) h8)) else (Q (some (.int ((-2)))) h)
set_option maxRecDepth 100000 in
set_option maxHeartbeats 4000000 in
theorem bl_X7_home_0 {X : aw_X} {Q : aw_R} (C : aw_C X cX7_home RX7 2 2) (Z : aw_Z X cX7_home (some .int) Q) (p0 : Nat) (h : aw_H) (hh : sm_X7_home_0  Q p0 h) : Sat X 0 [.ref p0, Value.null] [] h := by
  unfold sm_X7_home_0 at hh
  refine ow_aload_n C dX7_home_0 rfl rfl ?_
  refine ow_getR (ci := 6) (k := 0) (T := TX7) C rfl igX7 (by decide) kw_533 dX7_home_1 hh (fun q1 hh => ?_)
  refine ow_iconst (v := 3) C dX7_home_4 rfl ?_
  refine ow_iaload C dX7_home_5 hh (fun v2 hh => ?_)
  refine ow_if_ne (tgt := 12) C dX7_home_6 (by decide) hh (fun hh => ?_) (fun hh => ?_)
  · skip
    refine ow_aload_n C dX7_home_12 rfl rfl ?_
    refine ow_callV C (cv_X7_remember _) (Nat.le_of_ble_eq_true rfl) kw_659 dX7_home_13 (as := []) (st := []) rfl rfl (Nat.le_of_ble_eq_true rfl) hh (fun r4 h3 hq => ?_)
    obtain ⟨rfl, hh⟩ := sr_V_e hq
    show Sat X 16 [.ref p0, Value.null] [] h3
    refine ow_aload_n C dX7_home_16 rfl rfl ?_
    refine ow_getR (ci := 6) (k := 0) (T := TX7) C rfl igX7 (by decide) kw_533 dX7_home_17 hh (fun q5 hh => ?_)
    refine ow_iconst (v := 3) C dX7_home_20 rfl ?_
    refine ow_iaload C dX7_home_21 hh (fun v6 hh => ?_)
    refine ow_istore_n (L' := [.ref p0, .int v6]) C dX7_home_22 rfl (by decide) rfl ?_
    refine ow_aload_n C dX7_home_23 rfl rfl ?_
    refine ow_getR (ci := 6) (k := 0) (T := TX7) C rfl igX7 (by decide) kw_533 dX7_home_24 hh (fun q7 hh => ?_)
    refine ow_iconst (v := 3) C dX7_home_27 rfl ?_
    refine ow_iconst (v := 0) C dX7_home_28 rfl ?_
    refine ow_iastore C dX7_home_29 hh (fun h8 hh => ?_)
    refine ow_iload_n C dX7_home_30 rfl rfl ?_
    exact ow_iret Z dX7_home_31 trivial hh
  · skip
    refine ow_bipush (v := (-2)) C dX7_home_9 rfl ?_
    exact ow_iret Z dX7_home_11 trivial hh
def tr_X7_home : aw_T := fun as h Q => ∃ (p0 : Nat), as = [.ref p0] ∧ (sm_X7_home_0  Q p0 h)
theorem tq_X7_home {p0 : Nat} {h : aw_H} {Q : aw_R} : tr_X7_home [.ref p0] h Q ↔ (sm_X7_home_0  Q p0 h) := by
  constructor
  · rintro ⟨_, as0, hh⟩
    cases as0
    exact hh
  · intro hh
    exact ⟨_, rfl, hh⟩
theorem ct_X7_home (E : aw_F) : CT E yX7_home cX7_home 2 (some .int) 2 tr_X7_home := by
  refine ct_of (by decide) ?_
  intro X Q as h hE C Z hG
  subst hE
  obtain ⟨p0, rfl, hh⟩ := hG
  refine ⟨[.ref p0, Value.null], rfl, Nat.le_of_ble_eq_true rfl, ?_⟩
  exact bl_X7_home_0 C Z p0 h hh
theorem cv_X7_home (E : aw_F) : CV E yX7_home cX7_home 2 (some .int) 2 0 6 tr_X7_home := ⟨ct_X7_home E, by decide, kw_668, kw_669, kw_527, kw_667, by decide +kernel, _, _, rfl⟩
theorem dX7_flip_0 : decode cX7_flip 0 = .ok (.aload_n 0, 1) := by decide +kernel
theorem dX7_flip_1 : decode cX7_flip 1 = .ok (.iload_n 1, 1) := by decide +kernel
theorem dX7_flip_2 : decode cX7_flip 2 = .ok (.invokevirtual 50, 3) := by decide +kernel
theorem dX7_flip_5 : decode cX7_flip 5 = .ok (.ifCond .ne 5, 3) := by decide +kernel
theorem dX7_flip_8 : decode cX7_flip 8 = .ok (.iconst (-1), 1) := by decide +kernel
theorem dX7_flip_9 : decode cX7_flip 9 = .ok (.ireturn, 1) := by decide +kernel
theorem dX7_flip_10 : decode cX7_flip 10 = .ok (.aload_n 0, 1) := by decide +kernel
theorem dX7_flip_11 : decode cX7_flip 11 = .ok (.invokevirtual 144, 3) := by decide +kernel
theorem dX7_flip_14 : decode cX7_flip 14 = .ok (.aload_n 0, 1) := by decide +kernel
theorem dX7_flip_15 : decode cX7_flip 15 = .ok (.getfield 7, 3) := by decide +kernel
theorem dX7_flip_18 : decode cX7_flip 18 = .ok (.iconst 2, 1) := by decide +kernel
theorem dX7_flip_19 : decode cX7_flip 19 = .ok (.dup2, 1) := by decide +kernel
theorem dX7_flip_20 : decode cX7_flip 20 = .ok (.iaload, 1) := by decide +kernel
theorem dX7_flip_21 : decode cX7_flip 21 = .ok (.iconst 1, 1) := by decide +kernel
theorem dX7_flip_22 : decode cX7_flip 22 = .ok (.iload_n 1, 1) := by decide +kernel
theorem dX7_flip_23 : decode cX7_flip 23 = .ok (.ishl, 1) := by decide +kernel
theorem dX7_flip_24 : decode cX7_flip 24 = .ok (.ixor, 1) := by decide +kernel
theorem dX7_flip_25 : decode cX7_flip 25 = .ok (.iastore, 1) := by decide +kernel
theorem dX7_flip_26 : decode cX7_flip 26 = .ok (.aload_n 0, 1) := by decide +kernel
theorem dX7_flip_27 : decode cX7_flip 27 = .ok (.getfield 7, 3) := by decide +kernel
theorem dX7_flip_30 : decode cX7_flip 30 = .ok (.iconst 2, 1) := by decide +kernel
theorem dX7_flip_31 : decode cX7_flip 31 = .ok (.iaload, 1) := by decide +kernel
theorem dX7_flip_32 : decode cX7_flip 32 = .ok (.ireturn, 1) := by decide +kernel
def sm_X7_flip_0  (Q : aw_R) (p0 : Nat) (x1 : Int32) (h : aw_H) : Prop :=
  sv_O h p0 6 (tr_X7_isWire [.ref p0, .int x1] h fun r2 h1 => sr_I r2 fun v3 => if ¬ v3 = 0 then (sv_O h1 p0 6 (tr_X7_remember [.ref p0] h1 fun r5 h4 => sr_V r5 <| sg_R h4 p0 6 0 fun q6 => sa_I h4 q6 2 fun v7 => ss_I h4 q6 2 (v7 ^^^ ((1 : Int32) <<< (x1 &&& 31))) fun h8 => sg_R h8 p0 6 0 fun q9 => sa_I h8 q9 2 fun v10 => Q (some (.int v10)) h8)) else (Q (some (.int ((-1)))) h1))
set_option maxRecDepth 100000 in
set_option maxHeartbeats 4000000 in
theorem bl_X7_flip_0 {X : aw_X} {Q : aw_R} (C : aw_C X cX7_flip RX7 2 2) (Z : aw_Z X cX7_flip (some .int) Q) (p0 : Nat) (x1 : Int32) (h : aw_H) (hh : sm_X7_flip_0  Q p0 x1 h) : Sat X 0 [.ref p0, .int x1] [] h := by
  unfold sm_X7_flip_0 at hh
  refine ow_aload_n C dX7_flip_0 rfl rfl ?_
  refine ow_iload_n C dX7_flip_1 rfl rfl ?_
  refine ow_callV C (cv_X7_isWire _) (Nat.le_of_ble_eq_true rfl) kw_566 dX7_flip_2 (as := [.int x1]) (st := []) rfl rfl (Nat.le_of_ble_eq_true rfl) hh (fun r2 h1 hq => ?_)
  obtain ⟨v3, rfl, hh⟩ := sr_I_e hq
  show Sat X 5 [.ref p0, .int x1] [.int v3] h1
  refine ow_if_ne (tgt := 10) C dX7_flip_5 (by decide) hh (fun hh => ?_) (fun hh => ?_)
  · skip
    refine ow_aload_n C dX7_flip_10 rfl rfl ?_
    refine ow_callV C (cv_X7_remember _) (Nat.le_of_ble_eq_true rfl) kw_659 dX7_flip_11 (as := []) (st := []) rfl rfl (Nat.le_of_ble_eq_true rfl) hh (fun r5 h4 hq => ?_)
    obtain ⟨rfl, hh⟩ := sr_V_e hq
    show Sat X 14 [.ref p0, .int x1] [] h4
    refine ow_aload_n C dX7_flip_14 rfl rfl ?_
    refine ow_getR (ci := 6) (k := 0) (T := TX7) C rfl igX7 (by decide) kw_533 dX7_flip_15 hh (fun q6 hh => ?_)
    refine ow_iconst (v := 2) C dX7_flip_18 rfl ?_
    refine ow_dup2 C dX7_flip_19 rfl rfl ?_
    refine ow_iaload C dX7_flip_20 hh (fun v7 hh => ?_)
    refine ow_iconst (v := 1) C dX7_flip_21 rfl ?_
    refine ow_iload_n C dX7_flip_22 rfl rfl ?_
    refine ow_ishl C dX7_flip_23 ?_
    refine ow_ixor C dX7_flip_24 ?_
    refine ow_iastore C dX7_flip_25 hh (fun h8 hh => ?_)
    refine ow_aload_n C dX7_flip_26 rfl rfl ?_
    refine ow_getR (ci := 6) (k := 0) (T := TX7) C rfl igX7 (by decide) kw_533 dX7_flip_27 hh (fun q9 hh => ?_)
    refine ow_iconst (v := 2) C dX7_flip_30 rfl ?_
    refine ow_iaload C dX7_flip_31 hh (fun v10 hh => ?_)
    exact ow_iret Z dX7_flip_32 trivial hh
  · skip
    refine ow_iconst (v := (-1)) C dX7_flip_8 rfl ?_
    exact ow_iret Z dX7_flip_9 trivial hh
def tr_X7_flip : aw_T := fun as h Q => ∃ (p0 : Nat) (x1 : Int32), as = [.ref p0, .int x1] ∧ (sm_X7_flip_0  Q p0 x1 h)
theorem tq_X7_flip {p0 : Nat} {x1 : Int32} {h : aw_H} {Q : aw_R} : tr_X7_flip [.ref p0, .int x1] h Q ↔ (sm_X7_flip_0  Q p0 x1 h) := by
  constructor
  · rintro ⟨_, _, as0, hh⟩
    cases as0
    exact hh
  · intro hh
    exact ⟨_, _, rfl, hh⟩
theorem ct_X7_flip (E : aw_F) : CT E yX7_flip cX7_flip 2 (some .int) 2 tr_X7_flip := by
  refine ct_of (by decide) ?_
  intro X Q as h hE C Z hG
  subst hE
  obtain ⟨p0, x1, rfl, hh⟩ := hG
  refine ⟨[.ref p0, .int x1], rfl, Nat.le_of_ble_eq_true rfl, ?_⟩
  exact bl_X7_flip_0 C Z p0 x1 h hh
theorem cv_X7_flip (E : aw_F) : CV E yX7_flip cX7_flip 2 (some .int) 2 1 6 tr_X7_flip := ⟨ct_X7_flip E, by decide, kw_671, kw_672, kw_527, kw_670, by decide +kernel, _, _, rfl⟩
theorem dX7_deaden_0 : decode cX7_deaden 0 = .ok (.aload_n 0, 1) := by decide +kernel
theorem dX7_deaden_1 : decode cX7_deaden 1 = .ok (.iload_n 1, 1) := by decide +kernel
theorem dX7_deaden_2 : decode cX7_deaden 2 = .ok (.invokevirtual 66, 3) := by decide +kernel
theorem dX7_deaden_5 : decode cX7_deaden 5 = .ok (.ifCond .ne 5, 3) := by decide +kernel
theorem dX7_deaden_8 : decode cX7_deaden 8 = .ok (.iconst (-1), 1) := by decide +kernel
theorem dX7_deaden_9 : decode cX7_deaden 9 = .ok (.ireturn, 1) := by decide +kernel
theorem dX7_deaden_10 : decode cX7_deaden 10 = .ok (.aload_n 0, 1) := by decide +kernel
theorem dX7_deaden_11 : decode cX7_deaden 11 = .ok (.getfield 7, 3) := by decide +kernel
theorem dX7_deaden_14 : decode cX7_deaden 14 = .ok (.iconst 5, 1) := by decide +kernel
theorem dX7_deaden_15 : decode cX7_deaden 15 = .ok (.iconst 5, 1) := by decide +kernel
theorem dX7_deaden_16 : decode cX7_deaden 16 = .ok (.iload_n 1, 1) := by decide +kernel
theorem dX7_deaden_17 : decode cX7_deaden 17 = .ok (.imul, 1) := by decide +kernel
theorem dX7_deaden_18 : decode cX7_deaden 18 = .ok (.iadd, 1) := by decide +kernel
theorem dX7_deaden_19 : decode cX7_deaden 19 = .ok (.iconst 4, 1) := by decide +kernel
theorem dX7_deaden_20 : decode cX7_deaden 20 = .ok (.iadd, 1) := by decide +kernel
theorem dX7_deaden_21 : decode cX7_deaden 21 = .ok (.iaload, 1) := by decide +kernel
theorem dX7_deaden_22 : decode cX7_deaden 22 = .ok (.iload_n 2, 1) := by decide +kernel
theorem dX7_deaden_23 : decode cX7_deaden 23 = .ok (.if_icmp .ne 6, 3) := by decide +kernel
theorem dX7_deaden_26 : decode cX7_deaden 26 = .ok (.bipush (-2), 2) := by decide +kernel
theorem dX7_deaden_28 : decode cX7_deaden 28 = .ok (.ireturn, 1) := by decide +kernel
theorem dX7_deaden_29 : decode cX7_deaden 29 = .ok (.aload_n 0, 1) := by decide +kernel
theorem dX7_deaden_30 : decode cX7_deaden 30 = .ok (.invokevirtual 144, 3) := by decide +kernel
theorem dX7_deaden_33 : decode cX7_deaden 33 = .ok (.aload_n 0, 1) := by decide +kernel
theorem dX7_deaden_34 : decode cX7_deaden 34 = .ok (.getfield 7, 3) := by decide +kernel
theorem dX7_deaden_37 : decode cX7_deaden 37 = .ok (.iconst 5, 1) := by decide +kernel
theorem dX7_deaden_38 : decode cX7_deaden 38 = .ok (.iconst 5, 1) := by decide +kernel
theorem dX7_deaden_39 : decode cX7_deaden 39 = .ok (.iload_n 1, 1) := by decide +kernel
theorem dX7_deaden_40 : decode cX7_deaden 40 = .ok (.imul, 1) := by decide +kernel
theorem dX7_deaden_41 : decode cX7_deaden 41 = .ok (.iadd, 1) := by decide +kernel
theorem dX7_deaden_42 : decode cX7_deaden 42 = .ok (.iconst 4, 1) := by decide +kernel
theorem dX7_deaden_43 : decode cX7_deaden 43 = .ok (.iadd, 1) := by decide +kernel
theorem dX7_deaden_44 : decode cX7_deaden 44 = .ok (.iload_n 2, 1) := by decide +kernel
theorem dX7_deaden_45 : decode cX7_deaden 45 = .ok (.iastore, 1) := by decide +kernel
theorem dX7_deaden_46 : decode cX7_deaden 46 = .ok (.aload_n 0, 1) := by decide +kernel
theorem dX7_deaden_47 : decode cX7_deaden 47 = .ok (.invokevirtual 134, 3) := by decide +kernel
theorem dX7_deaden_50 : decode cX7_deaden 50 = .ok (.ireturn, 1) := by decide +kernel
def sm_X7_deaden_0  (Q : aw_R) (p0 : Nat) (x1 : Int32) (x2 : Int32) (h : aw_H) : Prop :=
  sv_O h p0 6 (tr_X7_isGate [.ref p0, .int x1] h fun r2 h1 => sr_I r2 fun v3 => if ¬ v3 = 0 then (sg_R h1 p0 6 0 fun q4 => sa_I h1 q4 ((5 + (5 * x1)) + 4) fun v5 => if ¬ v5 = x2 then (sv_O h1 p0 6 (tr_X7_remember [.ref p0] h1 fun r7 h6 => sr_V r7 <| sg_R h6 p0 6 0 fun q8 => ss_I h6 q8 ((5 + (5 * x1)) + 4) x2 fun h9 => sv_O h9 p0 6 (tr_X7_dead [.ref p0] h9 fun r11 h10 => sr_I r11 fun v12 => Q (some (.int v12)) h10))) else (Q (some (.int ((-2)))) h1)) else (Q (some (.int ((-1)))) h1))
set_option maxRecDepth 100000 in
set_option maxHeartbeats 4000000 in
theorem bl_X7_deaden_0 {X : aw_X} {Q : aw_R} (C : aw_C X cX7_deaden RX7 3 2) (Z : aw_Z X cX7_deaden (some .int) Q) (p0 : Nat) (x1 : Int32) (x2 : Int32) (h : aw_H) (hh : sm_X7_deaden_0  Q p0 x1 x2 h) : Sat X 0 [.ref p0, .int x1, .int x2] [] h := by
  unfold sm_X7_deaden_0 at hh
  refine ow_aload_n C dX7_deaden_0 rfl rfl ?_
  refine ow_iload_n C dX7_deaden_1 rfl rfl ?_
  refine ow_callV C (cv_X7_isGate _) (Nat.le_of_ble_eq_true rfl) kw_572 dX7_deaden_2 (as := [.int x1]) (st := []) rfl rfl (Nat.le_of_ble_eq_true rfl) hh (fun r2 h1 hq => ?_)
  obtain ⟨v3, rfl, hh⟩ := sr_I_e hq
  show Sat X 5 [.ref p0, .int x1, .int x2] [.int v3] h1
  refine ow_if_ne (tgt := 10) C dX7_deaden_5 (by decide) hh (fun hh => ?_) (fun hh => ?_)
  · skip
    refine ow_aload_n C dX7_deaden_10 rfl rfl ?_
    refine ow_getR (ci := 6) (k := 0) (T := TX7) C rfl igX7 (by decide) kw_533 dX7_deaden_11 hh (fun q4 hh => ?_)
    refine ow_iconst (v := 5) C dX7_deaden_14 rfl ?_
    refine ow_iconst (v := 5) C dX7_deaden_15 rfl ?_
    refine ow_iload_n C dX7_deaden_16 rfl rfl ?_
    refine ow_imul C dX7_deaden_17 ?_
    refine ow_iadd C dX7_deaden_18 ?_
    refine ow_iconst (v := 4) C dX7_deaden_19 rfl ?_
    refine ow_iadd C dX7_deaden_20 ?_
    refine ow_iaload C dX7_deaden_21 hh (fun v5 hh => ?_)
    refine ow_iload_n C dX7_deaden_22 rfl rfl ?_
    refine ow_icmp_ne (tgt := 29) C dX7_deaden_23 (by decide) hh (fun hh => ?_) (fun hh => ?_)
    · skip
      refine ow_aload_n C dX7_deaden_29 rfl rfl ?_
      refine ow_callV C (cv_X7_remember _) (Nat.le_of_ble_eq_true rfl) kw_659 dX7_deaden_30 (as := []) (st := []) rfl rfl (Nat.le_of_ble_eq_true rfl) hh (fun r7 h6 hq => ?_)
      obtain ⟨rfl, hh⟩ := sr_V_e hq
      show Sat X 33 [.ref p0, .int x1, .int x2] [] h6
      refine ow_aload_n C dX7_deaden_33 rfl rfl ?_
      refine ow_getR (ci := 6) (k := 0) (T := TX7) C rfl igX7 (by decide) kw_533 dX7_deaden_34 hh (fun q8 hh => ?_)
      refine ow_iconst (v := 5) C dX7_deaden_37 rfl ?_
      refine ow_iconst (v := 5) C dX7_deaden_38 rfl ?_
      refine ow_iload_n C dX7_deaden_39 rfl rfl ?_
      refine ow_imul C dX7_deaden_40 ?_
      refine ow_iadd C dX7_deaden_41 ?_
      refine ow_iconst (v := 4) C dX7_deaden_42 rfl ?_
      refine ow_iadd C dX7_deaden_43 ?_
      refine ow_iload_n C dX7_deaden_44 rfl rfl ?_
      refine ow_iastore C dX7_deaden_45 hh (fun h9 hh => ?_)
      refine ow_aload_n C dX7_deaden_46 rfl rfl ?_
      refine ow_callV C (cv_X7_dead _) (Nat.le_of_ble_eq_true rfl) kw_647 dX7_deaden_47 (as := []) (st := []) rfl rfl (Nat.le_of_ble_eq_true rfl) hh (fun r11 h10 hq => ?_)
      obtain ⟨v12, rfl, hh⟩ := sr_I_e hq
      show Sat X 50 [.ref p0, .int x1, .int x2] [.int v12] h10
      exact ow_iret Z dX7_deaden_50 trivial hh
    · skip
      refine ow_bipush (v := (-2)) C dX7_deaden_26 rfl ?_
      exact ow_iret Z dX7_deaden_28 trivial hh
  · skip
    refine ow_iconst (v := (-1)) C dX7_deaden_8 rfl ?_
    exact ow_iret Z dX7_deaden_9 trivial hh
def tr_X7_deaden : aw_T := fun as h Q => ∃ (p0 : Nat) (x1 : Int32) (x2 : Int32), as = [.ref p0, .int x1, .int x2] ∧ (sm_X7_deaden_0  Q p0 x1 x2 h)
theorem tq_X7_deaden {p0 : Nat} {x1 : Int32} {x2 : Int32} {h : aw_H} {Q : aw_R} : tr_X7_deaden [.ref p0, .int x1, .int x2] h Q ↔ (sm_X7_deaden_0  Q p0 x1 x2 h) := by
  constructor
  · rintro ⟨_, _, _, as0, hh⟩
    cases as0
    exact hh
  · intro hh
    exact ⟨_, _, _, rfl, hh⟩
theorem ct_X7_deaden (E : aw_F) : CT E yX7_deaden cX7_deaden 3 (some .int) 2 tr_X7_deaden := by
  refine ct_of (by decide) ?_
  intro X Q as h hE C Z hG
  subst hE
  obtain ⟨p0, x1, x2, rfl, hh⟩ := hG
  refine ⟨[.ref p0, .int x1, .int x2], rfl, Nat.le_of_ble_eq_true rfl, ?_⟩
  exact bl_X7_deaden_0 C Z p0 x1 x2 h hh
theorem cv_X7_deaden (E : aw_F) : CV E yX7_deaden cX7_deaden 3 (some .int) 2 2 6 tr_X7_deaden := ⟨ct_X7_deaden E, by decide, kw_674, kw_675, kw_527, kw_673, by decide +kernel, _, _, rfl⟩
theorem dX7_kill_0 : decode cX7_kill 0 = .ok (.aload_n 0, 1) := by decide +kernel
theorem dX7_kill_1 : decode cX7_kill 1 = .ok (.iload_n 1, 1) := by decide +kernel
theorem dX7_kill_2 : decode cX7_kill 2 = .ok (.iconst 1, 1) := by decide +kernel
theorem dX7_kill_3 : decode cX7_kill 3 = .ok (.invokevirtual 150, 3) := by decide +kernel
theorem dX7_kill_6 : decode cX7_kill 6 = .ok (.ireturn, 1) := by decide +kernel
def sm_X7_kill_0  (Q : aw_R) (p0 : Nat) (x1 : Int32) (h : aw_H) : Prop :=
  sv_O h p0 6 (tr_X7_deaden [.ref p0, .int x1, .int 1] h fun r2 h1 => sr_I r2 fun v3 => Q (some (.int v3)) h1)
set_option maxRecDepth 100000 in
set_option maxHeartbeats 4000000 in
theorem bl_X7_kill_0 {X : aw_X} {Q : aw_R} (C : aw_C X cX7_kill RX7 2 3) (Z : aw_Z X cX7_kill (some .int) Q) (p0 : Nat) (x1 : Int32) (h : aw_H) (hh : sm_X7_kill_0  Q p0 x1 h) : Sat X 0 [.ref p0, .int x1] [] h := by
  unfold sm_X7_kill_0 at hh
  refine ow_aload_n C dX7_kill_0 rfl rfl ?_
  refine ow_iload_n C dX7_kill_1 rfl rfl ?_
  refine ow_iconst (v := 1) C dX7_kill_2 rfl ?_
  refine ow_callV C (cv_X7_deaden _) (Nat.le_of_ble_eq_true rfl) kw_676 dX7_kill_3 (as := [.int x1, .int 1]) (st := []) rfl rfl (Nat.le_of_ble_eq_true rfl) hh (fun r2 h1 hq => ?_)
  obtain ⟨v3, rfl, hh⟩ := sr_I_e hq
  show Sat X 6 [.ref p0, .int x1] [.int v3] h1
  exact ow_iret Z dX7_kill_6 trivial hh
def tr_X7_kill : aw_T := fun as h Q => ∃ (p0 : Nat) (x1 : Int32), as = [.ref p0, .int x1] ∧ (sm_X7_kill_0  Q p0 x1 h)
theorem tq_X7_kill {p0 : Nat} {x1 : Int32} {h : aw_H} {Q : aw_R} : tr_X7_kill [.ref p0, .int x1] h Q ↔ (sm_X7_kill_0  Q p0 x1 h) := by
  constructor
  · rintro ⟨_, _, as0, hh⟩
    cases as0
    exact hh
  · intro hh
    exact ⟨_, _, rfl, hh⟩
theorem ct_X7_kill (E : aw_F) : CT E yX7_kill cX7_kill 2 (some .int) 3 tr_X7_kill := by
  refine ct_of (by decide) ?_
  intro X Q as h hE C Z hG
  subst hE
  obtain ⟨p0, x1, rfl, hh⟩ := hG
  refine ⟨[.ref p0, .int x1], rfl, Nat.le_of_ble_eq_true rfl, ?_⟩
  exact bl_X7_kill_0 C Z p0 x1 h hh
theorem cv_X7_kill (E : aw_F) : CV E yX7_kill cX7_kill 2 (some .int) 3 1 6 tr_X7_kill := ⟨ct_X7_kill E, by decide, kw_678, kw_679, kw_527, kw_677, by decide +kernel, _, _, rfl⟩
theorem dX7_heal_0 : decode cX7_heal 0 = .ok (.aload_n 0, 1) := by decide +kernel
theorem dX7_heal_1 : decode cX7_heal 1 = .ok (.iload_n 1, 1) := by decide +kernel
theorem dX7_heal_2 : decode cX7_heal 2 = .ok (.iconst 0, 1) := by decide +kernel
theorem dX7_heal_3 : decode cX7_heal 3 = .ok (.invokevirtual 150, 3) := by decide +kernel
theorem dX7_heal_6 : decode cX7_heal 6 = .ok (.ireturn, 1) := by decide +kernel
def sm_X7_heal_0  (Q : aw_R) (p0 : Nat) (x1 : Int32) (h : aw_H) : Prop :=
  sv_O h p0 6 (tr_X7_deaden [.ref p0, .int x1, .int 0] h fun r2 h1 => sr_I r2 fun v3 => Q (some (.int v3)) h1)
set_option maxRecDepth 100000 in
set_option maxHeartbeats 4000000 in
theorem bl_X7_heal_0 {X : aw_X} {Q : aw_R} (C : aw_C X cX7_heal RX7 2 3) (Z : aw_Z X cX7_heal (some .int) Q) (p0 : Nat) (x1 : Int32) (h : aw_H) (hh : sm_X7_heal_0  Q p0 x1 h) : Sat X 0 [.ref p0, .int x1] [] h := by
  unfold sm_X7_heal_0 at hh
  refine ow_aload_n C dX7_heal_0 rfl rfl ?_
  refine ow_iload_n C dX7_heal_1 rfl rfl ?_
  refine ow_iconst (v := 0) C dX7_heal_2 rfl ?_
  refine ow_callV C (cv_X7_deaden _) (Nat.le_of_ble_eq_true rfl) kw_676 dX7_heal_3 (as := [.int x1, .int 0]) (st := []) rfl rfl (Nat.le_of_ble_eq_true rfl) hh (fun r2 h1 hq => ?_)
  obtain ⟨v3, rfl, hh⟩ := sr_I_e hq
  show Sat X 6 [.ref p0, .int x1] [.int v3] h1
  exact ow_iret Z dX7_heal_6 trivial hh
def tr_X7_heal : aw_T := fun as h Q => ∃ (p0 : Nat) (x1 : Int32), as = [.ref p0, .int x1] ∧ (sm_X7_heal_0  Q p0 x1 h)
theorem tq_X7_heal {p0 : Nat} {x1 : Int32} {h : aw_H} {Q : aw_R} : tr_X7_heal [.ref p0, .int x1] h Q ↔ (sm_X7_heal_0  Q p0 x1 h) := by
  constructor
  · rintro ⟨_, _, as0, hh⟩
    cases as0
    exact hh
  · intro hh
    exact ⟨_, _, rfl, hh⟩
theorem ct_X7_heal (E : aw_F) : CT E yX7_heal cX7_heal 2 (some .int) 3 tr_X7_heal := by
  refine ct_of (by decide) ?_
  intro X Q as h hE C Z hG
  subst hE
  obtain ⟨p0, x1, rfl, hh⟩ := hG
  refine ⟨[.ref p0, .int x1], rfl, Nat.le_of_ble_eq_true rfl, ?_⟩
  exact bl_X7_heal_0 C Z p0 x1 h hh
theorem cv_X7_heal (E : aw_F) : CV E yX7_heal cX7_heal 2 (some .int) 3 1 6 tr_X7_heal := ⟨ct_X7_heal E, by decide, kw_681, kw_682, kw_527, kw_680, by decide +kernel, _, _, rfl⟩
theorem dX7_swapIn_0 : decode cX7_swapIn 0 = .ok (.iconst 0, 1) := by decide +kernel
theorem dX7_swapIn_1 : decode cX7_swapIn 1 = .ok (.istore 4, 2) := by decide +kernel
theorem dX7_swapIn_3 : decode cX7_swapIn 3 = .ok (.iload 4, 2) := by decide +kernel
theorem dX7_swapIn_5 : decode cX7_swapIn 5 = .ok (.iconst 5, 1) := by decide +kernel
theorem dX7_swapIn_6 : decode cX7_swapIn 6 = .ok (.if_icmp .ge 73, 3) := by decide +kernel
theorem dX7_swapIn_9 : decode cX7_swapIn 9 = .ok (.aload_n 0, 1) := by decide +kernel
theorem dX7_swapIn_10 : decode cX7_swapIn 10 = .ok (.getfield 7, 3) := by decide +kernel
theorem dX7_swapIn_13 : decode cX7_swapIn 13 = .ok (.iload_n 1, 1) := by decide +kernel
theorem dX7_swapIn_14 : decode cX7_swapIn 14 = .ok (.iconst 5, 1) := by decide +kernel
theorem dX7_swapIn_15 : decode cX7_swapIn 15 = .ok (.iadd, 1) := by decide +kernel
theorem dX7_swapIn_16 : decode cX7_swapIn 16 = .ok (.iconst 5, 1) := by decide +kernel
theorem dX7_swapIn_17 : decode cX7_swapIn 17 = .ok (.iload_n 2, 1) := by decide +kernel
theorem dX7_swapIn_18 : decode cX7_swapIn 18 = .ok (.imul, 1) := by decide +kernel
theorem dX7_swapIn_19 : decode cX7_swapIn 19 = .ok (.iadd, 1) := by decide +kernel
theorem dX7_swapIn_20 : decode cX7_swapIn 20 = .ok (.iload 4, 2) := by decide +kernel
theorem dX7_swapIn_22 : decode cX7_swapIn 22 = .ok (.iadd, 1) := by decide +kernel
theorem dX7_swapIn_23 : decode cX7_swapIn 23 = .ok (.iaload, 1) := by decide +kernel
theorem dX7_swapIn_24 : decode cX7_swapIn 24 = .ok (.istore 5, 2) := by decide +kernel
theorem dX7_swapIn_26 : decode cX7_swapIn 26 = .ok (.aload_n 0, 1) := by decide +kernel
theorem dX7_swapIn_27 : decode cX7_swapIn 27 = .ok (.getfield 7, 3) := by decide +kernel
theorem dX7_swapIn_30 : decode cX7_swapIn 30 = .ok (.iload_n 1, 1) := by decide +kernel
theorem dX7_swapIn_31 : decode cX7_swapIn 31 = .ok (.iconst 5, 1) := by decide +kernel
theorem dX7_swapIn_32 : decode cX7_swapIn 32 = .ok (.iadd, 1) := by decide +kernel
theorem dX7_swapIn_33 : decode cX7_swapIn 33 = .ok (.iconst 5, 1) := by decide +kernel
theorem dX7_swapIn_34 : decode cX7_swapIn 34 = .ok (.iload_n 2, 1) := by decide +kernel
theorem dX7_swapIn_35 : decode cX7_swapIn 35 = .ok (.imul, 1) := by decide +kernel
theorem dX7_swapIn_36 : decode cX7_swapIn 36 = .ok (.iadd, 1) := by decide +kernel
theorem dX7_swapIn_37 : decode cX7_swapIn 37 = .ok (.iload 4, 2) := by decide +kernel
theorem dX7_swapIn_39 : decode cX7_swapIn 39 = .ok (.iadd, 1) := by decide +kernel
theorem dX7_swapIn_40 : decode cX7_swapIn 40 = .ok (.aload_n 0, 1) := by decide +kernel
theorem dX7_swapIn_41 : decode cX7_swapIn 41 = .ok (.getfield 7, 3) := by decide +kernel
theorem dX7_swapIn_44 : decode cX7_swapIn 44 = .ok (.iload_n 1, 1) := by decide +kernel
theorem dX7_swapIn_45 : decode cX7_swapIn 45 = .ok (.iconst 5, 1) := by decide +kernel
theorem dX7_swapIn_46 : decode cX7_swapIn 46 = .ok (.iadd, 1) := by decide +kernel
theorem dX7_swapIn_47 : decode cX7_swapIn 47 = .ok (.iconst 5, 1) := by decide +kernel
theorem dX7_swapIn_48 : decode cX7_swapIn 48 = .ok (.iload_n 3, 1) := by decide +kernel
theorem dX7_swapIn_49 : decode cX7_swapIn 49 = .ok (.imul, 1) := by decide +kernel
theorem dX7_swapIn_50 : decode cX7_swapIn 50 = .ok (.iadd, 1) := by decide +kernel
theorem dX7_swapIn_51 : decode cX7_swapIn 51 = .ok (.iload 4, 2) := by decide +kernel
theorem dX7_swapIn_53 : decode cX7_swapIn 53 = .ok (.iadd, 1) := by decide +kernel
theorem dX7_swapIn_54 : decode cX7_swapIn 54 = .ok (.iaload, 1) := by decide +kernel
theorem dX7_swapIn_55 : decode cX7_swapIn 55 = .ok (.iastore, 1) := by decide +kernel
theorem dX7_swapIn_56 : decode cX7_swapIn 56 = .ok (.aload_n 0, 1) := by decide +kernel
theorem dX7_swapIn_57 : decode cX7_swapIn 57 = .ok (.getfield 7, 3) := by decide +kernel
theorem dX7_swapIn_60 : decode cX7_swapIn 60 = .ok (.iload_n 1, 1) := by decide +kernel
theorem dX7_swapIn_61 : decode cX7_swapIn 61 = .ok (.iconst 5, 1) := by decide +kernel
theorem dX7_swapIn_62 : decode cX7_swapIn 62 = .ok (.iadd, 1) := by decide +kernel
theorem dX7_swapIn_63 : decode cX7_swapIn 63 = .ok (.iconst 5, 1) := by decide +kernel
theorem dX7_swapIn_64 : decode cX7_swapIn 64 = .ok (.iload_n 3, 1) := by decide +kernel
theorem dX7_swapIn_65 : decode cX7_swapIn 65 = .ok (.imul, 1) := by decide +kernel
theorem dX7_swapIn_66 : decode cX7_swapIn 66 = .ok (.iadd, 1) := by decide +kernel
theorem dX7_swapIn_67 : decode cX7_swapIn 67 = .ok (.iload 4, 2) := by decide +kernel
theorem dX7_swapIn_69 : decode cX7_swapIn 69 = .ok (.iadd, 1) := by decide +kernel
theorem dX7_swapIn_70 : decode cX7_swapIn 70 = .ok (.iload 5, 2) := by decide +kernel
theorem dX7_swapIn_72 : decode cX7_swapIn 72 = .ok (.iastore, 1) := by decide +kernel
theorem dX7_swapIn_73 : decode cX7_swapIn 73 = .ok (.iinc 4 1, 3) := by decide +kernel
theorem dX7_swapIn_76 : decode cX7_swapIn 76 = .ok (.goto (-73), 3) := by decide +kernel
theorem dX7_swapIn_79 : decode cX7_swapIn 79 = .ok (.return_, 1) := by decide +kernel
def sm_X7_swapIn_3 (K3 : Nat → Int32 → Int32 → Int32 → Int32 → aw_H → Prop) (Q : aw_R) (p0 : Nat) (x1 : Int32) (x2 : Int32) (x3 : Int32) (x4 : Int32) (h : aw_H) : Prop :=
  if 5 ≤ x4 then (Q none h) else (sg_R h p0 6 0 fun q1 => sa_I h q1 (((x1 + 5) + (5 * x2)) + x4) fun v2 => sg_R h p0 6 0 fun q3 => sg_R h p0 6 0 fun q4 => sa_I h q4 (((x1 + 5) + (5 * x3)) + x4) fun v5 => ss_I h q3 (((x1 + 5) + (5 * x2)) + x4) v5 fun h6 => sg_R h6 p0 6 0 fun q7 => ss_I h6 q7 (((x1 + 5) + (5 * x3)) + x4) v2 fun h8 => K3 p0 x1 x2 x3 (x4 + 1) h8)
set_option maxRecDepth 100000 in
set_option maxHeartbeats 4000000 in
theorem bl_X7_swapIn_3 {X : aw_X} {Q : aw_R} (C : aw_C X cX7_swapIn RX7 6 0) (Z : aw_Z X cX7_swapIn none Q) (p0 : Nat) (x1 : Int32) (x2 : Int32) (x3 : Int32) (x4 : Int32) (h : aw_H) (hh : sm_X7_swapIn_3 (fun (p0 : Nat) (x1 : Int32) (x2 : Int32) (x3 : Int32) (x4 : Int32) (h : aw_H) => Sat X 3 [.ref p0, .int x1, .int x2, .int x3, .int x4, Value.null] [] h) Q p0 x1 x2 x3 x4 h) : Sat X 3 [.ref p0, .int x1, .int x2, .int x3, .int x4, Value.null] [] h := by
  unfold sm_X7_swapIn_3 at hh
  refine ow_iload C dX7_swapIn_3 rfl ?_
  refine ow_iconst (v := 5) C dX7_swapIn_5 rfl ?_
  refine ow_icmp_ge (tgt := 79) C dX7_swapIn_6 (by decide) hh (fun hh => ?_) (fun hh => ?_)
  · skip
    exact ow_vret Z dX7_swapIn_79 trivial hh
  · skip
    refine ow_aload_n C dX7_swapIn_9 rfl rfl ?_
    refine ow_getR (ci := 6) (k := 0) (T := TX7) C rfl igX7 (by decide) kw_533 dX7_swapIn_10 hh (fun q1 hh => ?_)
    refine ow_iload_n C dX7_swapIn_13 rfl rfl ?_
    refine ow_iconst (v := 5) C dX7_swapIn_14 rfl ?_
    refine ow_iadd C dX7_swapIn_15 ?_
    refine ow_iconst (v := 5) C dX7_swapIn_16 rfl ?_
    refine ow_iload_n C dX7_swapIn_17 rfl rfl ?_
    refine ow_imul C dX7_swapIn_18 ?_
    refine ow_iadd C dX7_swapIn_19 ?_
    refine ow_iload C dX7_swapIn_20 rfl ?_
    refine ow_iadd C dX7_swapIn_22 ?_
    refine ow_iaload C dX7_swapIn_23 hh (fun v2 hh => ?_)
    refine ow_istore (L' := [.ref p0, .int x1, .int x2, .int x3, .int x4, .int v2]) C dX7_swapIn_24 (by decide) rfl ?_
    refine ow_aload_n C dX7_swapIn_26 rfl rfl ?_
    refine ow_getR (ci := 6) (k := 0) (T := TX7) C rfl igX7 (by decide) kw_533 dX7_swapIn_27 hh (fun q3 hh => ?_)
    refine ow_iload_n C dX7_swapIn_30 rfl rfl ?_
    refine ow_iconst (v := 5) C dX7_swapIn_31 rfl ?_
    refine ow_iadd C dX7_swapIn_32 ?_
    refine ow_iconst (v := 5) C dX7_swapIn_33 rfl ?_
    refine ow_iload_n C dX7_swapIn_34 rfl rfl ?_
    refine ow_imul C dX7_swapIn_35 ?_
    refine ow_iadd C dX7_swapIn_36 ?_
    refine ow_iload C dX7_swapIn_37 rfl ?_
    refine ow_iadd C dX7_swapIn_39 ?_
    refine ow_aload_n C dX7_swapIn_40 rfl rfl ?_
    refine ow_getR (ci := 6) (k := 0) (T := TX7) C rfl igX7 (by decide) kw_533 dX7_swapIn_41 hh (fun q4 hh => ?_)
    refine ow_iload_n C dX7_swapIn_44 rfl rfl ?_
    refine ow_iconst (v := 5) C dX7_swapIn_45 rfl ?_
    refine ow_iadd C dX7_swapIn_46 ?_
    refine ow_iconst (v := 5) C dX7_swapIn_47 rfl ?_
    refine ow_iload_n C dX7_swapIn_48 rfl rfl ?_
    refine ow_imul C dX7_swapIn_49 ?_
    refine ow_iadd C dX7_swapIn_50 ?_
    refine ow_iload C dX7_swapIn_51 rfl ?_
    refine ow_iadd C dX7_swapIn_53 ?_
    refine ow_iaload C dX7_swapIn_54 hh (fun v5 hh => ?_)
    refine ow_iastore C dX7_swapIn_55 hh (fun h6 hh => ?_)
    refine ow_aload_n C dX7_swapIn_56 rfl rfl ?_
    refine ow_getR (ci := 6) (k := 0) (T := TX7) C rfl igX7 (by decide) kw_533 dX7_swapIn_57 hh (fun q7 hh => ?_)
    refine ow_iload_n C dX7_swapIn_60 rfl rfl ?_
    refine ow_iconst (v := 5) C dX7_swapIn_61 rfl ?_
    refine ow_iadd C dX7_swapIn_62 ?_
    refine ow_iconst (v := 5) C dX7_swapIn_63 rfl ?_
    refine ow_iload_n C dX7_swapIn_64 rfl rfl ?_
    refine ow_imul C dX7_swapIn_65 ?_
    refine ow_iadd C dX7_swapIn_66 ?_
    refine ow_iload C dX7_swapIn_67 rfl ?_
    refine ow_iadd C dX7_swapIn_69 ?_
    refine ow_iload C dX7_swapIn_70 rfl ?_
    refine ow_iastore C dX7_swapIn_72 hh (fun h8 hh => ?_)
    refine ow_iinc (v := x4 + 1) (L' := [.ref p0, .int x1, .int x2, .int x3, .int (x4 + 1), .int v2]) C dX7_swapIn_73 rfl rfl (by decide) rfl ?_
    refine ow_goto (tgt := 3) C dX7_swapIn_76 (by decide) ?_
    exact Sat.mask hh (mk_y (mk_y (mk_y (mk_y (mk_y (mk_n mk_0))))))
def sm_X7_swapIn_0 (K3 : Nat → Int32 → Int32 → Int32 → Int32 → aw_H → Prop) (Q : aw_R) (p0 : Nat) (x1 : Int32) (x2 : Int32) (x3 : Int32) (h : aw_H) : Prop :=
  K3 p0 x1 x2 x3 0 h
set_option maxRecDepth 100000 in
set_option maxHeartbeats 4000000 in
theorem bl_X7_swapIn_0 {X : aw_X} {Q : aw_R} (C : aw_C X cX7_swapIn RX7 6 0) (Z : aw_Z X cX7_swapIn none Q) (p0 : Nat) (x1 : Int32) (x2 : Int32) (x3 : Int32) (h : aw_H) (hh : sm_X7_swapIn_0 (fun (p0 : Nat) (x1 : Int32) (x2 : Int32) (x3 : Int32) (x4 : Int32) (h : aw_H) => Sat X 3 [.ref p0, .int x1, .int x2, .int x3, .int x4, Value.null] [] h) Q p0 x1 x2 x3 h) : Sat X 0 [.ref p0, .int x1, .int x2, .int x3, Value.null, Value.null] [] h := by
  unfold sm_X7_swapIn_0 at hh
  refine ow_iconst (v := 0) C dX7_swapIn_0 rfl ?_
  refine ow_istore (L' := [.ref p0, .int x1, .int x2, .int x3, .int 0, Value.null]) C dX7_swapIn_1 (by decide) rfl ?_
  exact Sat.mask hh (mk_y (mk_y (mk_y (mk_y (mk_y (mk_n mk_0))))))
def tr_X7_swapIn : aw_T := fun as h Q => ∃ (p0 : Nat) (x1 : Int32) (x2 : Int32) (x3 : Int32), as = [.ref p0, .int x1, .int x2, .int x3] ∧ (∀ (K3 : Nat → Int32 → Int32 → Int32 → Int32 → aw_H → Prop), (∀ (p0 : Nat) (x1 : Int32) (x2 : Int32) (x3 : Int32) (x4 : Int32) (h : aw_H), sm_X7_swapIn_3 K3 Q p0 x1 x2 x3 x4 h → K3 p0 x1 x2 x3 x4 h) → sm_X7_swapIn_0 K3 Q p0 x1 x2 x3 h)
theorem tq_X7_swapIn {p0 : Nat} {x1 : Int32} {x2 : Int32} {x3 : Int32} {h : aw_H} {Q : aw_R} : tr_X7_swapIn [.ref p0, .int x1, .int x2, .int x3] h Q ↔ (∀ (K3 : Nat → Int32 → Int32 → Int32 → Int32 → aw_H → Prop), (∀ (p0 : Nat) (x1 : Int32) (x2 : Int32) (x3 : Int32) (x4 : Int32) (h : aw_H), sm_X7_swapIn_3 K3 Q p0 x1 x2 x3 x4 h → K3 p0 x1 x2 x3 x4 h) → sm_X7_swapIn_0 K3 Q p0 x1 x2 x3 h) := by
  constructor
  · rintro ⟨_, _, _, _, as0, hh⟩
    cases as0
    exact hh
  · intro hh
    exact ⟨_, _, _, _, rfl, hh⟩
theorem ct_X7_swapIn (E : aw_F) : CT E yX7_swapIn cX7_swapIn 6 none 0 tr_X7_swapIn := by
  refine ct_of (by decide) ?_
  intro X Q as h hE C Z hG
  subst hE
  obtain ⟨p0, x1, x2, x3, rfl, hh⟩ := hG
  refine ⟨[.ref p0, .int x1, .int x2, .int x3, Value.null, Value.null], rfl, Nat.le_of_ble_eq_true rfl, ?_⟩
  exact bl_X7_swapIn_0 C Z p0 x1 x2 x3 h (hh (fun (p0 : Nat) (x1 : Int32) (x2 : Int32) (x3 : Int32) (x4 : Int32) (h : aw_H) => Sat X 3 [.ref p0, .int x1, .int x2, .int x3, .int x4, Value.null] [] h) (fun p0 x1 x2 x3 x4 h hh => bl_X7_swapIn_3 C Z p0 x1 x2 x3 x4 h hh))
theorem cv_X7_swapIn (E : aw_F) : CV E yX7_swapIn cX7_swapIn 6 none 0 3 6 tr_X7_swapIn := ⟨ct_X7_swapIn E, by decide, kw_684, kw_685, kw_527, kw_683, by decide +kernel, _, _, rfl⟩
theorem dX7_move_0 : decode cX7_move 0 = .ok (.aload_n 0, 1) := by decide +kernel
theorem dX7_move_1 : decode cX7_move 1 = .ok (.iload_n 1, 1) := by decide +kernel
theorem dX7_move_2 : decode cX7_move 2 = .ok (.invokevirtual 66, 3) := by decide +kernel
theorem dX7_move_5 : decode cX7_move 5 = .ok (.ifCond .eq 16, 3) := by decide +kernel
theorem dX7_move_8 : decode cX7_move 8 = .ok (.aload_n 0, 1) := by decide +kernel
theorem dX7_move_9 : decode cX7_move 9 = .ok (.iload_n 2, 1) := by decide +kernel
theorem dX7_move_10 : decode cX7_move 10 = .ok (.invokevirtual 66, 3) := by decide +kernel
theorem dX7_move_13 : decode cX7_move 13 = .ok (.ifCond .eq 8, 3) := by decide +kernel
theorem dX7_move_16 : decode cX7_move 16 = .ok (.iload_n 1, 1) := by decide +kernel
theorem dX7_move_17 : decode cX7_move 17 = .ok (.iload_n 2, 1) := by decide +kernel
theorem dX7_move_18 : decode cX7_move 18 = .ok (.if_icmp .ne 5, 3) := by decide +kernel
theorem dX7_move_21 : decode cX7_move 21 = .ok (.iconst (-1), 1) := by decide +kernel
theorem dX7_move_22 : decode cX7_move 22 = .ok (.ireturn, 1) := by decide +kernel
theorem dX7_move_23 : decode cX7_move 23 = .ok (.aload_n 0, 1) := by decide +kernel
theorem dX7_move_24 : decode cX7_move 24 = .ok (.invokevirtual 144, 3) := by decide +kernel
theorem dX7_move_27 : decode cX7_move 27 = .ok (.aload_n 0, 1) := by decide +kernel
theorem dX7_move_28 : decode cX7_move 28 = .ok (.iconst 0, 1) := by decide +kernel
theorem dX7_move_29 : decode cX7_move 29 = .ok (.iload_n 1, 1) := by decide +kernel
theorem dX7_move_30 : decode cX7_move 30 = .ok (.iload_n 2, 1) := by decide +kernel
theorem dX7_move_31 : decode cX7_move 31 = .ok (.invokevirtual 153, 3) := by decide +kernel
theorem dX7_move_34 : decode cX7_move 34 = .ok (.iconst 1, 1) := by decide +kernel
theorem dX7_move_35 : decode cX7_move 35 = .ok (.ireturn, 1) := by decide +kernel
def sm_X7_move_0  (Q : aw_R) (p0 : Nat) (x1 : Int32) (x2 : Int32) (h : aw_H) : Prop :=
  sv_O h p0 6 (tr_X7_isGate [.ref p0, .int x1] h fun r2 h1 => sr_I r2 fun v3 => if v3 = 0 then (Q (some (.int ((-1)))) h1) else (sv_O h1 p0 6 (tr_X7_isGate [.ref p0, .int x2] h1 fun r5 h4 => sr_I r5 fun v6 => if v6 = 0 then (Q (some (.int ((-1)))) h4) else (if ¬ x1 = x2 then (sv_O h4 p0 6 (tr_X7_remember [.ref p0] h4 fun r8 h7 => sr_V r8 <| sv_O h7 p0 6 (tr_X7_swapIn [.ref p0, .int 0, .int x1, .int x2] h7 fun r10 h9 => sr_V r10 <| Q (some (.int 1)) h9))) else (Q (some (.int ((-1)))) h4)))))
set_option maxRecDepth 100000 in
set_option maxHeartbeats 4000000 in
theorem bl_X7_move_0 {X : aw_X} {Q : aw_R} (C : aw_C X cX7_move RX7 3 2) (Z : aw_Z X cX7_move (some .int) Q) (p0 : Nat) (x1 : Int32) (x2 : Int32) (h : aw_H) (hh : sm_X7_move_0  Q p0 x1 x2 h) : Sat X 0 [.ref p0, .int x1, .int x2] [] h := by
  unfold sm_X7_move_0 at hh
  refine ow_aload_n C dX7_move_0 rfl rfl ?_
  refine ow_iload_n C dX7_move_1 rfl rfl ?_
  refine ow_callV C (cv_X7_isGate _) (Nat.le_of_ble_eq_true rfl) kw_572 dX7_move_2 (as := [.int x1]) (st := []) rfl rfl (Nat.le_of_ble_eq_true rfl) hh (fun r2 h1 hq => ?_)
  obtain ⟨v3, rfl, hh⟩ := sr_I_e hq
  show Sat X 5 [.ref p0, .int x1, .int x2] [.int v3] h1
  refine ow_if_eq (tgt := 21) C dX7_move_5 (by decide) hh (fun hh => ?_) (fun hh => ?_)
  · skip
    refine ow_iconst (v := (-1)) C dX7_move_21 rfl ?_
    exact ow_iret Z dX7_move_22 trivial hh
  · skip
    refine ow_aload_n C dX7_move_8 rfl rfl ?_
    refine ow_iload_n C dX7_move_9 rfl rfl ?_
    refine ow_callV C (cv_X7_isGate _) (Nat.le_of_ble_eq_true rfl) kw_572 dX7_move_10 (as := [.int x2]) (st := []) rfl rfl (Nat.le_of_ble_eq_true rfl) hh (fun r5 h4 hq => ?_)
    obtain ⟨v6, rfl, hh⟩ := sr_I_e hq
    show Sat X 13 [.ref p0, .int x1, .int x2] [.int v6] h4
    refine ow_if_eq (tgt := 21) C dX7_move_13 (by decide) hh (fun hh => ?_) (fun hh => ?_)
    · skip
      refine ow_iconst (v := (-1)) C dX7_move_21 rfl ?_
      exact ow_iret Z dX7_move_22 trivial hh
    · skip
      refine ow_iload_n C dX7_move_16 rfl rfl ?_
      refine ow_iload_n C dX7_move_17 rfl rfl ?_
      refine ow_icmp_ne (tgt := 23) C dX7_move_18 (by decide) hh (fun hh => ?_) (fun hh => ?_)
      · skip
        refine ow_aload_n C dX7_move_23 rfl rfl ?_
        refine ow_callV C (cv_X7_remember _) (Nat.le_of_ble_eq_true rfl) kw_659 dX7_move_24 (as := []) (st := []) rfl rfl (Nat.le_of_ble_eq_true rfl) hh (fun r8 h7 hq => ?_)
        obtain ⟨rfl, hh⟩ := sr_V_e hq
        show Sat X 27 [.ref p0, .int x1, .int x2] [] h7
        refine ow_aload_n C dX7_move_27 rfl rfl ?_
        refine ow_iconst (v := 0) C dX7_move_28 rfl ?_
        refine ow_iload_n C dX7_move_29 rfl rfl ?_
        refine ow_iload_n C dX7_move_30 rfl rfl ?_
        refine ow_callV C (cv_X7_swapIn _) (Nat.le_of_ble_eq_true rfl) kw_686 dX7_move_31 (as := [.int 0, .int x1, .int x2]) (st := []) rfl rfl (Nat.le_of_ble_eq_true rfl) hh (fun r10 h9 hq => ?_)
        obtain ⟨rfl, hh⟩ := sr_V_e hq
        show Sat X 34 [.ref p0, .int x1, .int x2] [] h9
        refine ow_iconst (v := 1) C dX7_move_34 rfl ?_
        exact ow_iret Z dX7_move_35 trivial hh
      · skip
        refine ow_iconst (v := (-1)) C dX7_move_21 rfl ?_
        exact ow_iret Z dX7_move_22 trivial hh
def tr_X7_move : aw_T := fun as h Q => ∃ (p0 : Nat) (x1 : Int32) (x2 : Int32), as = [.ref p0, .int x1, .int x2] ∧ (sm_X7_move_0  Q p0 x1 x2 h)
theorem tq_X7_move {p0 : Nat} {x1 : Int32} {x2 : Int32} {h : aw_H} {Q : aw_R} : tr_X7_move [.ref p0, .int x1, .int x2] h Q ↔ (sm_X7_move_0  Q p0 x1 x2 h) := by
  constructor
  · rintro ⟨_, _, _, as0, hh⟩
    cases as0
    exact hh
  · intro hh
    exact ⟨_, _, _, rfl, hh⟩
theorem ct_X7_move (E : aw_F) : CT E yX7_move cX7_move 3 (some .int) 2 tr_X7_move := by
  refine ct_of (by decide) ?_
  intro X Q as h hE C Z hG
  subst hE
  obtain ⟨p0, x1, x2, rfl, hh⟩ := hG
  refine ⟨[.ref p0, .int x1, .int x2], rfl, Nat.le_of_ble_eq_true rfl, ?_⟩
  exact bl_X7_move_0 C Z p0 x1 x2 h hh
theorem cv_X7_move (E : aw_F) : CV E yX7_move cX7_move 3 (some .int) 2 2 6 tr_X7_move := ⟨ct_X7_move E, by decide, kw_688, kw_689, kw_527, kw_687, by decide +kernel, _, _, rfl⟩
