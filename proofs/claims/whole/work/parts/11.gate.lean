theorem dX2_isDead_0 : decode cX2_isDead 0 = .ok (.iload_n 0, 1) := by decide +kernel
theorem dX2_isDead_1 : decode cX2_isDead 1 = .ok (.sipush 4096, 3) := by decide +kernel
theorem dX2_isDead_4 : decode cX2_isDead 4 = .ok (.iand, 1) := by decide +kernel
theorem dX2_isDead_5 : decode cX2_isDead 5 = .ok (.ifCond .eq 7, 3) := by decide +kernel
theorem dX2_isDead_8 : decode cX2_isDead 8 = .ok (.iconst 1, 1) := by decide +kernel
theorem dX2_isDead_9 : decode cX2_isDead 9 = .ok (.goto 4, 3) := by decide +kernel
theorem dX2_isDead_12 : decode cX2_isDead 12 = .ok (.iconst 0, 1) := by decide +kernel
theorem dX2_isDead_13 : decode cX2_isDead 13 = .ok (.ireturn, 1) := by decide +kernel
def sm_X2_isDead_0  (Q : aw_R) (x0 : Int32) (h : aw_H) : Prop :=
  if (x0 &&& 4096) = 0 then (Q (some (.int 0)) h) else (Q (some (.int 1)) h)
set_option maxRecDepth 100000 in
set_option maxHeartbeats 4000000 in
theorem bl_X2_isDead_0 {X : aw_X} {Q : aw_R} (C : aw_C X cX2_isDead RX2 1 0) (Z : aw_Z X cX2_isDead (some .boolean) Q) (x0 : Int32) (h : aw_H) (hh : sm_X2_isDead_0  Q x0 h) : Sat X 0 [.int x0] [] h := by
  unfold sm_X2_isDead_0 at hh
  refine ow_iload_n C dX2_isDead_0 rfl rfl ?_
  refine ow_sipush (v := 4096) C dX2_isDead_1 rfl ?_
  refine ow_iand C dX2_isDead_4 ?_
  refine ow_if_eq (tgt := 12) C dX2_isDead_5 (by decide) hh (fun hh => ?_) (fun hh => ?_)
  · skip
    refine ow_iconst (v := 0) C dX2_isDead_12 rfl ?_
    exact ow_iret Z dX2_isDead_13 (Or.inl rfl) hh
  · skip
    refine ow_iconst (v := 1) C dX2_isDead_8 rfl ?_
    refine ow_goto (tgt := 13) C dX2_isDead_9 (by decide) ?_
    exact ow_iret Z dX2_isDead_13 (Or.inr rfl) hh
def tr_X2_isDead : aw_T := fun as h Q => ∃ (x0 : Int32), as = [.int x0] ∧ (sm_X2_isDead_0  Q x0 h)
theorem tq_X2_isDead {x0 : Int32} {h : aw_H} {Q : aw_R} : tr_X2_isDead [.int x0] h Q ↔ (sm_X2_isDead_0  Q x0 h) := by
  constructor
  · rintro ⟨_, as0, hh⟩
    cases as0
    exact hh
  · intro hh
    exact ⟨_, rfl, hh⟩
theorem ct_X2_isDead (E : aw_F) : CT E yX2_isDead cX2_isDead 1 (some .boolean) 0 tr_X2_isDead := by
  refine ct_of (by decide) ?_
  intro X Q as h hE C Z hG
  subst hE
  obtain ⟨x0, rfl, hh⟩ := hG
  refine ⟨[.int x0], rfl, Nat.le_of_ble_eq_true rfl, ?_⟩
  exact bl_X2_isDead_0 C Z x0 h hh
theorem cs_X2_isDead (E : aw_F) : CS E yX2_isDead cX2_isDead 1 (some .boolean) 0 1 tr_X2_isDead := ⟨ct_X2_isDead E, by decide, kw_13, kw_12, kw_11, by decide +kernel⟩
theorem dX2_wireAt_0 : decode cX2_wireAt 0 = .ok (.iload_n 0, 1) := by decide +kernel
theorem dX2_wireAt_1 : decode cX2_wireAt 1 = .ok (.iconst 3, 1) := by decide +kernel
theorem dX2_wireAt_2 : decode cX2_wireAt 2 = .ok (.iconst 3, 1) := by decide +kernel
theorem dX2_wireAt_3 : decode cX2_wireAt 3 = .ok (.iload_n 1, 1) := by decide +kernel
theorem dX2_wireAt_4 : decode cX2_wireAt 4 = .ok (.imul, 1) := by decide +kernel
theorem dX2_wireAt_5 : decode cX2_wireAt 5 = .ok (.iadd, 1) := by decide +kernel
theorem dX2_wireAt_6 : decode cX2_wireAt 6 = .ok (.ishr, 1) := by decide +kernel
theorem dX2_wireAt_7 : decode cX2_wireAt 7 = .ok (.bipush 7, 2) := by decide +kernel
theorem dX2_wireAt_9 : decode cX2_wireAt 9 = .ok (.iand, 1) := by decide +kernel
theorem dX2_wireAt_10 : decode cX2_wireAt 10 = .ok (.ireturn, 1) := by decide +kernel
def sm_X2_wireAt_0  (Q : aw_R) (x0 : Int32) (x1 : Int32) (h : aw_H) : Prop :=
  Q (some (.int ((x0 >>> ((3 + (3 * x1)) &&& 31)) &&& 7))) h
set_option maxRecDepth 100000 in
set_option maxHeartbeats 4000000 in
theorem bl_X2_wireAt_0 {X : aw_X} {Q : aw_R} (C : aw_C X cX2_wireAt RX2 2 0) (Z : aw_Z X cX2_wireAt (some .int) Q) (x0 : Int32) (x1 : Int32) (h : aw_H) (hh : sm_X2_wireAt_0  Q x0 x1 h) : Sat X 0 [.int x0, .int x1] [] h := by
  unfold sm_X2_wireAt_0 at hh
  refine ow_iload_n C dX2_wireAt_0 rfl rfl ?_
  refine ow_iconst (v := 3) C dX2_wireAt_1 rfl ?_
  refine ow_iconst (v := 3) C dX2_wireAt_2 rfl ?_
  refine ow_iload_n C dX2_wireAt_3 rfl rfl ?_
  refine ow_imul C dX2_wireAt_4 ?_
  refine ow_iadd C dX2_wireAt_5 ?_
  refine ow_ishr C dX2_wireAt_6 ?_
  refine ow_bipush (v := 7) C dX2_wireAt_7 rfl ?_
  refine ow_iand C dX2_wireAt_9 ?_
  exact ow_iret Z dX2_wireAt_10 trivial hh
def tr_X2_wireAt : aw_T := fun as h Q => ∃ (x0 : Int32) (x1 : Int32), as = [.int x0, .int x1] ∧ (sm_X2_wireAt_0  Q x0 x1 h)
theorem tq_X2_wireAt {x0 : Int32} {x1 : Int32} {h : aw_H} {Q : aw_R} : tr_X2_wireAt [.int x0, .int x1] h Q ↔ (sm_X2_wireAt_0  Q x0 x1 h) := by
  constructor
  · rintro ⟨_, _, as0, hh⟩
    cases as0
    exact hh
  · intro hh
    exact ⟨_, _, rfl, hh⟩
theorem ct_X2_wireAt (E : aw_F) : CT E yX2_wireAt cX2_wireAt 2 (some .int) 0 tr_X2_wireAt := by
  refine ct_of (by decide) ?_
  intro X Q as h hE C Z hG
  subst hE
  obtain ⟨x0, x1, rfl, hh⟩ := hG
  refine ⟨[.int x0, .int x1], rfl, Nat.le_of_ble_eq_true rfl, ?_⟩
  exact bl_X2_wireAt_0 C Z x0 x1 h hh
theorem cs_X2_wireAt (E : aw_F) : CS E yX2_wireAt cX2_wireAt 2 (some .int) 0 2 tr_X2_wireAt := ⟨ct_X2_wireAt E, by decide, kw_15, kw_12, kw_14, by decide +kernel⟩
theorem dX2_kindOf_0 : decode cX2_kindOf 0 = .ok (.iload_n 0, 1) := by decide +kernel
theorem dX2_kindOf_1 : decode cX2_kindOf 1 = .ok (.bipush 7, 2) := by decide +kernel
theorem dX2_kindOf_3 : decode cX2_kindOf 3 = .ok (.iand, 1) := by decide +kernel
theorem dX2_kindOf_4 : decode cX2_kindOf 4 = .ok (.ireturn, 1) := by decide +kernel
def sm_X2_kindOf_0  (Q : aw_R) (x0 : Int32) (h : aw_H) : Prop :=
  Q (some (.int (x0 &&& 7))) h
set_option maxRecDepth 100000 in
set_option maxHeartbeats 4000000 in
theorem bl_X2_kindOf_0 {X : aw_X} {Q : aw_R} (C : aw_C X cX2_kindOf RX2 1 0) (Z : aw_Z X cX2_kindOf (some .int) Q) (x0 : Int32) (h : aw_H) (hh : sm_X2_kindOf_0  Q x0 h) : Sat X 0 [.int x0] [] h := by
  unfold sm_X2_kindOf_0 at hh
  refine ow_iload_n C dX2_kindOf_0 rfl rfl ?_
  refine ow_bipush (v := 7) C dX2_kindOf_1 rfl ?_
  refine ow_iand C dX2_kindOf_3 ?_
  exact ow_iret Z dX2_kindOf_4 trivial hh
def tr_X2_kindOf : aw_T := fun as h Q => ∃ (x0 : Int32), as = [.int x0] ∧ (sm_X2_kindOf_0  Q x0 h)
theorem tq_X2_kindOf {x0 : Int32} {h : aw_H} {Q : aw_R} : tr_X2_kindOf [.int x0] h Q ↔ (sm_X2_kindOf_0  Q x0 h) := by
  constructor
  · rintro ⟨_, as0, hh⟩
    cases as0
    exact hh
  · intro hh
    exact ⟨_, rfl, hh⟩
theorem ct_X2_kindOf (E : aw_F) : CT E yX2_kindOf cX2_kindOf 1 (some .int) 0 tr_X2_kindOf := by
  refine ct_of (by decide) ?_
  intro X Q as h hE C Z hG
  subst hE
  obtain ⟨x0, rfl, hh⟩ := hG
  refine ⟨[.int x0], rfl, Nat.le_of_ble_eq_true rfl, ?_⟩
  exact bl_X2_kindOf_0 C Z x0 h hh
theorem cs_X2_kindOf (E : aw_F) : CS E yX2_kindOf cX2_kindOf 1 (some .int) 0 1 tr_X2_kindOf := ⟨ct_X2_kindOf E, by decide, kw_17, kw_12, kw_16, by decide +kernel⟩
theorem dX2_turnIf_0 : decode cX2_turnIf 0 = .ok (.iload_n 0, 1) := by decide +kernel
theorem dX2_turnIf_1 : decode cX2_turnIf 1 = .ok (.iload_n 2, 1) := by decide +kernel
theorem dX2_turnIf_2 : decode cX2_turnIf 2 = .ok (.iand, 1) := by decide +kernel
theorem dX2_turnIf_3 : decode cX2_turnIf 3 = .ok (.ifCond .eq 9, 3) := by decide +kernel
theorem dX2_turnIf_6 : decode cX2_turnIf 6 = .ok (.iload_n 0, 1) := by decide +kernel
theorem dX2_turnIf_7 : decode cX2_turnIf 7 = .ok (.iload_n 1, 1) := by decide +kernel
theorem dX2_turnIf_8 : decode cX2_turnIf 8 = .ok (.ixor, 1) := by decide +kernel
theorem dX2_turnIf_9 : decode cX2_turnIf 9 = .ok (.goto 4, 3) := by decide +kernel
theorem dX2_turnIf_12 : decode cX2_turnIf 12 = .ok (.iload_n 0, 1) := by decide +kernel
theorem dX2_turnIf_13 : decode cX2_turnIf 13 = .ok (.ireturn, 1) := by decide +kernel
def sm_X2_turnIf_0  (Q : aw_R) (x0 : Int32) (x1 : Int32) (x2 : Int32) (h : aw_H) : Prop :=
  if (x0 &&& x2) = 0 then (Q (some (.int x0)) h) else (Q (some (.int (x0 ^^^ x1))) h)
set_option maxRecDepth 100000 in
set_option maxHeartbeats 4000000 in
theorem bl_X2_turnIf_0 {X : aw_X} {Q : aw_R} (C : aw_C X cX2_turnIf RX2 3 0) (Z : aw_Z X cX2_turnIf (some .int) Q) (x0 : Int32) (x1 : Int32) (x2 : Int32) (h : aw_H) (hh : sm_X2_turnIf_0  Q x0 x1 x2 h) : Sat X 0 [.int x0, .int x1, .int x2] [] h := by
  unfold sm_X2_turnIf_0 at hh
  refine ow_iload_n C dX2_turnIf_0 rfl rfl ?_
  refine ow_iload_n C dX2_turnIf_1 rfl rfl ?_
  refine ow_iand C dX2_turnIf_2 ?_
  refine ow_if_eq (tgt := 12) C dX2_turnIf_3 (by decide) hh (fun hh => ?_) (fun hh => ?_)
  · skip
    refine ow_iload_n C dX2_turnIf_12 rfl rfl ?_
    exact ow_iret Z dX2_turnIf_13 trivial hh
  · skip
    refine ow_iload_n C dX2_turnIf_6 rfl rfl ?_
    refine ow_iload_n C dX2_turnIf_7 rfl rfl ?_
    refine ow_ixor C dX2_turnIf_8 ?_
    refine ow_goto (tgt := 13) C dX2_turnIf_9 (by decide) ?_
    exact ow_iret Z dX2_turnIf_13 trivial hh
def tr_X2_turnIf : aw_T := fun as h Q => ∃ (x0 : Int32) (x1 : Int32) (x2 : Int32), as = [.int x0, .int x1, .int x2] ∧ (sm_X2_turnIf_0  Q x0 x1 x2 h)
theorem tq_X2_turnIf {x0 : Int32} {x1 : Int32} {x2 : Int32} {h : aw_H} {Q : aw_R} : tr_X2_turnIf [.int x0, .int x1, .int x2] h Q ↔ (sm_X2_turnIf_0  Q x0 x1 x2 h) := by
  constructor
  · rintro ⟨_, _, _, as0, hh⟩
    cases as0
    exact hh
  · intro hh
    exact ⟨_, _, _, rfl, hh⟩
theorem ct_X2_turnIf (E : aw_F) : CT E yX2_turnIf cX2_turnIf 3 (some .int) 0 tr_X2_turnIf := by
  refine ct_of (by decide) ?_
  intro X Q as h hE C Z hG
  subst hE
  obtain ⟨x0, x1, x2, rfl, hh⟩ := hG
  refine ⟨[.int x0, .int x1, .int x2], rfl, Nat.le_of_ble_eq_true rfl, ?_⟩
  exact bl_X2_turnIf_0 C Z x0 x1 x2 h hh
theorem cs_X2_turnIf (E : aw_F) : CS E yX2_turnIf cX2_turnIf 3 (some .int) 0 3 tr_X2_turnIf := ⟨ct_X2_turnIf E, by decide, kw_19, kw_12, kw_18, by decide +kernel⟩
theorem dX2_change_0 : decode cX2_change 0 = .ok (.iload_n 0, 1) := by decide +kernel
theorem dX2_change_1 : decode cX2_change 1 = .ok (.iload_n 1, 1) := by decide +kernel
theorem dX2_change_2 : decode cX2_change 2 = .ok (.iload_n 2, 1) := by decide +kernel
theorem dX2_change_3 : decode cX2_change 3 = .ok (.invokestatic 28, 3) := by decide +kernel
theorem dX2_change_6 : decode cX2_change 6 = .ok (.iload_n 2, 1) := by decide +kernel
theorem dX2_change_7 : decode cX2_change 7 = .ok (.iload_n 1, 1) := by decide +kernel
theorem dX2_change_8 : decode cX2_change 8 = .ok (.invokestatic 28, 3) := by decide +kernel
theorem dX2_change_11 : decode cX2_change 11 = .ok (.iload_n 1, 1) := by decide +kernel
theorem dX2_change_12 : decode cX2_change 12 = .ok (.iload_n 2, 1) := by decide +kernel
theorem dX2_change_13 : decode cX2_change 13 = .ok (.invokestatic 28, 3) := by decide +kernel
theorem dX2_change_16 : decode cX2_change 16 = .ok (.ireturn, 1) := by decide +kernel
def sm_X2_change_0  (Q : aw_R) (x0 : Int32) (x1 : Int32) (x2 : Int32) (h : aw_H) : Prop :=
  tr_X2_turnIf [.int x0, .int x1, .int x2] h fun r2 h1 => sr_I r2 fun v3 => tr_X2_turnIf [.int v3, .int x2, .int x1] h1 fun r5 h4 => sr_I r5 fun v6 => tr_X2_turnIf [.int v6, .int x1, .int x2] h4 fun r8 h7 => sr_I r8 fun v9 => Q (some (.int v9)) h7
set_option maxRecDepth 100000 in
set_option maxHeartbeats 4000000 in
theorem bl_X2_change_0 {X : aw_X} {Q : aw_R} (C : aw_C X cX2_change RX2 3 1) (Z : aw_Z X cX2_change (some .int) Q) (x0 : Int32) (x1 : Int32) (x2 : Int32) (h : aw_H) (hh : sm_X2_change_0  Q x0 x1 x2 h) : Sat X 0 [.int x0, .int x1, .int x2] [] h := by
  unfold sm_X2_change_0 at hh
  refine ow_iload_n C dX2_change_0 rfl rfl ?_
  refine ow_iload_n C dX2_change_1 rfl rfl ?_
  refine ow_iload_n C dX2_change_2 rfl rfl ?_
  refine ow_callS C (cs_X2_turnIf _) (Nat.le_of_ble_eq_true rfl) kw_20 dX2_change_3 (as := [.int x0, .int x1, .int x2]) (st := []) rfl rfl (Nat.le_of_ble_eq_true rfl) hh (fun r2 h1 hq => ?_)
  obtain ⟨v3, rfl, hh⟩ := sr_I_e hq
  show Sat X 6 [.int x0, .int x1, .int x2] [.int v3] h1
  refine ow_iload_n C dX2_change_6 rfl rfl ?_
  refine ow_iload_n C dX2_change_7 rfl rfl ?_
  refine ow_callS C (cs_X2_turnIf _) (Nat.le_of_ble_eq_true rfl) kw_20 dX2_change_8 (as := [.int v3, .int x2, .int x1]) (st := []) rfl rfl (Nat.le_of_ble_eq_true rfl) hh (fun r5 h4 hq => ?_)
  obtain ⟨v6, rfl, hh⟩ := sr_I_e hq
  show Sat X 11 [.int x0, .int x1, .int x2] [.int v6] h4
  refine ow_iload_n C dX2_change_11 rfl rfl ?_
  refine ow_iload_n C dX2_change_12 rfl rfl ?_
  refine ow_callS C (cs_X2_turnIf _) (Nat.le_of_ble_eq_true rfl) kw_20 dX2_change_13 (as := [.int v6, .int x1, .int x2]) (st := []) rfl rfl (Nat.le_of_ble_eq_true rfl) hh (fun r8 h7 hq => ?_)
  obtain ⟨v9, rfl, hh⟩ := sr_I_e hq
  show Sat X 16 [.int x0, .int x1, .int x2] [.int v9] h7
  exact ow_iret Z dX2_change_16 trivial hh
def tr_X2_change : aw_T := fun as h Q => ∃ (x0 : Int32) (x1 : Int32) (x2 : Int32), as = [.int x0, .int x1, .int x2] ∧ (sm_X2_change_0  Q x0 x1 x2 h)
theorem tq_X2_change {x0 : Int32} {x1 : Int32} {x2 : Int32} {h : aw_H} {Q : aw_R} : tr_X2_change [.int x0, .int x1, .int x2] h Q ↔ (sm_X2_change_0  Q x0 x1 x2 h) := by
  constructor
  · rintro ⟨_, _, _, as0, hh⟩
    cases as0
    exact hh
  · intro hh
    exact ⟨_, _, _, rfl, hh⟩
theorem ct_X2_change (E : aw_F) : CT E yX2_change cX2_change 3 (some .int) 1 tr_X2_change := by
  refine ct_of (by decide) ?_
  intro X Q as h hE C Z hG
  subst hE
  obtain ⟨x0, x1, x2, rfl, hh⟩ := hG
  refine ⟨[.int x0, .int x1, .int x2], rfl, Nat.le_of_ble_eq_true rfl, ?_⟩
  exact bl_X2_change_0 C Z x0 x1 x2 h hh
theorem cs_X2_change (E : aw_F) : CS E yX2_change cX2_change 3 (some .int) 1 3 tr_X2_change := ⟨ct_X2_change E, by decide, kw_22, kw_12, kw_21, by decide +kernel⟩
theorem dX2_act_0 : decode cX2_act 0 = .ok (.iload_n 0, 1) := by decide +kernel
theorem dX2_act_1 : decode cX2_act 1 = .ok (.invokestatic 17, 3) := by decide +kernel
theorem dX2_act_4 : decode cX2_act 4 = .ok (.ifCond .eq 5, 3) := by decide +kernel
theorem dX2_act_7 : decode cX2_act 7 = .ok (.iload_n 1, 1) := by decide +kernel
theorem dX2_act_8 : decode cX2_act 8 = .ok (.ireturn, 1) := by decide +kernel
theorem dX2_act_9 : decode cX2_act 9 = .ok (.iconst 1, 1) := by decide +kernel
theorem dX2_act_10 : decode cX2_act 10 = .ok (.iload_n 0, 1) := by decide +kernel
theorem dX2_act_11 : decode cX2_act 11 = .ok (.iconst 0, 1) := by decide +kernel
theorem dX2_act_12 : decode cX2_act 12 = .ok (.invokestatic 21, 3) := by decide +kernel
theorem dX2_act_15 : decode cX2_act 15 = .ok (.ishl, 1) := by decide +kernel
theorem dX2_act_16 : decode cX2_act 16 = .ok (.istore_n 2, 1) := by decide +kernel
theorem dX2_act_17 : decode cX2_act 17 = .ok (.iconst 1, 1) := by decide +kernel
theorem dX2_act_18 : decode cX2_act 18 = .ok (.iload_n 0, 1) := by decide +kernel
theorem dX2_act_19 : decode cX2_act 19 = .ok (.iconst 1, 1) := by decide +kernel
theorem dX2_act_20 : decode cX2_act 20 = .ok (.invokestatic 21, 3) := by decide +kernel
theorem dX2_act_23 : decode cX2_act 23 = .ok (.ishl, 1) := by decide +kernel
theorem dX2_act_24 : decode cX2_act 24 = .ok (.istore_n 3, 1) := by decide +kernel
theorem dX2_act_25 : decode cX2_act 25 = .ok (.iconst 1, 1) := by decide +kernel
theorem dX2_act_26 : decode cX2_act 26 = .ok (.iload_n 0, 1) := by decide +kernel
theorem dX2_act_27 : decode cX2_act 27 = .ok (.iconst 2, 1) := by decide +kernel
theorem dX2_act_28 : decode cX2_act 28 = .ok (.invokestatic 21, 3) := by decide +kernel
theorem dX2_act_31 : decode cX2_act 31 = .ok (.ishl, 1) := by decide +kernel
theorem dX2_act_32 : decode cX2_act 32 = .ok (.istore 4, 2) := by decide +kernel
theorem dX2_act_34 : decode cX2_act 34 = .ok (.iload_n 0, 1) := by decide +kernel
theorem dX2_act_35 : decode cX2_act 35 = .ok (.invokestatic 25, 3) := by decide +kernel
theorem dX2_act_38 : decode cX2_act 38 = .ok (.tableswitch 88 0 4 #[34, 38, 45, 52, 70], 34) := by decide +kernel
theorem dX2_act_72 : decode cX2_act 72 = .ok (.iload_n 1, 1) := by decide +kernel
theorem dX2_act_73 : decode cX2_act 73 = .ok (.iload_n 2, 1) := by decide +kernel
theorem dX2_act_74 : decode cX2_act 74 = .ok (.ixor, 1) := by decide +kernel
theorem dX2_act_75 : decode cX2_act 75 = .ok (.ireturn, 1) := by decide +kernel
theorem dX2_act_76 : decode cX2_act 76 = .ok (.iload_n 1, 1) := by decide +kernel
theorem dX2_act_77 : decode cX2_act 77 = .ok (.iload_n 2, 1) := by decide +kernel
theorem dX2_act_78 : decode cX2_act 78 = .ok (.iload_n 3, 1) := by decide +kernel
theorem dX2_act_79 : decode cX2_act 79 = .ok (.invokestatic 28, 3) := by decide +kernel
theorem dX2_act_82 : decode cX2_act 82 = .ok (.ireturn, 1) := by decide +kernel
theorem dX2_act_83 : decode cX2_act 83 = .ok (.iload_n 1, 1) := by decide +kernel
theorem dX2_act_84 : decode cX2_act 84 = .ok (.iload_n 2, 1) := by decide +kernel
theorem dX2_act_85 : decode cX2_act 85 = .ok (.iload_n 3, 1) := by decide +kernel
theorem dX2_act_86 : decode cX2_act 86 = .ok (.invokestatic 32, 3) := by decide +kernel
theorem dX2_act_89 : decode cX2_act 89 = .ok (.ireturn, 1) := by decide +kernel
theorem dX2_act_90 : decode cX2_act 90 = .ok (.iload_n 1, 1) := by decide +kernel
theorem dX2_act_91 : decode cX2_act 91 = .ok (.iload 4, 2) := by decide +kernel
theorem dX2_act_93 : decode cX2_act 93 = .ok (.iand, 1) := by decide +kernel
theorem dX2_act_94 : decode cX2_act 94 = .ok (.ifCond .eq 12, 3) := by decide +kernel
theorem dX2_act_97 : decode cX2_act 97 = .ok (.iload_n 1, 1) := by decide +kernel
theorem dX2_act_98 : decode cX2_act 98 = .ok (.iload_n 2, 1) := by decide +kernel
theorem dX2_act_99 : decode cX2_act 99 = .ok (.iload_n 3, 1) := by decide +kernel
theorem dX2_act_100 : decode cX2_act 100 = .ok (.invokestatic 28, 3) := by decide +kernel
theorem dX2_act_103 : decode cX2_act 103 = .ok (.goto 4, 3) := by decide +kernel
theorem dX2_act_106 : decode cX2_act 106 = .ok (.iload_n 1, 1) := by decide +kernel
theorem dX2_act_107 : decode cX2_act 107 = .ok (.ireturn, 1) := by decide +kernel
theorem dX2_act_108 : decode cX2_act 108 = .ok (.iload_n 1, 1) := by decide +kernel
theorem dX2_act_109 : decode cX2_act 109 = .ok (.iload 4, 2) := by decide +kernel
theorem dX2_act_111 : decode cX2_act 111 = .ok (.iand, 1) := by decide +kernel
theorem dX2_act_112 : decode cX2_act 112 = .ok (.ifCond .eq 12, 3) := by decide +kernel
theorem dX2_act_115 : decode cX2_act 115 = .ok (.iload_n 1, 1) := by decide +kernel
theorem dX2_act_116 : decode cX2_act 116 = .ok (.iload_n 2, 1) := by decide +kernel
theorem dX2_act_117 : decode cX2_act 117 = .ok (.iload_n 3, 1) := by decide +kernel
theorem dX2_act_118 : decode cX2_act 118 = .ok (.invokestatic 32, 3) := by decide +kernel
theorem dX2_act_121 : decode cX2_act 121 = .ok (.goto 4, 3) := by decide +kernel
theorem dX2_act_124 : decode cX2_act 124 = .ok (.iload_n 1, 1) := by decide +kernel
theorem dX2_act_125 : decode cX2_act 125 = .ok (.ireturn, 1) := by decide +kernel
theorem dX2_act_126 : decode cX2_act 126 = .ok (.iload_n 1, 1) := by decide +kernel
theorem dX2_act_127 : decode cX2_act 127 = .ok (.ireturn, 1) := by decide +kernel
def sm_X2_act_0  (Q : aw_R) (x0 : Int32) (x1 : Int32) (h : aw_H) : Prop :=
  tr_X2_isDead [.int x0] h fun r2 h1 => sr_I r2 fun v3 => if v3 = 0 then (tr_X2_wireAt [.int x0, .int 0] h1 fun r5 h4 => sr_I r5 fun v6 => tr_X2_wireAt [.int x0, .int 1] h4 fun r8 h7 => sr_I r8 fun v9 => tr_X2_wireAt [.int x0, .int 2] h7 fun r11 h10 => sr_I r11 fun v12 => tr_X2_kindOf [.int x0] h10 fun r14 h13 => sr_I r14 fun v15 => if v15 = 0 then (Q (some (.int (x1 ^^^ ((1 : Int32) <<< (v6 &&& 31))))) h13) else if v15 = 1 then (tr_X2_turnIf [.int x1, .int ((1 : Int32) <<< (v6 &&& 31)), .int ((1 : Int32) <<< (v9 &&& 31))] h13 fun r17 h16 => sr_I r17 fun v18 => Q (some (.int v18)) h16) else if v15 = 2 then (tr_X2_change [.int x1, .int ((1 : Int32) <<< (v6 &&& 31)), .int ((1 : Int32) <<< (v9 &&& 31))] h13 fun r20 h19 => sr_I r20 fun v21 => Q (some (.int v21)) h19) else if v15 = 3 then (if (x1 &&& ((1 : Int32) <<< (v12 &&& 31))) = 0 then (Q (some (.int x1)) h13) else (tr_X2_turnIf [.int x1, .int ((1 : Int32) <<< (v6 &&& 31)), .int ((1 : Int32) <<< (v9 &&& 31))] h13 fun r23 h22 => sr_I r23 fun v24 => Q (some (.int v24)) h22)) else if v15 = 4 then (if (x1 &&& ((1 : Int32) <<< (v12 &&& 31))) = 0 then (Q (some (.int x1)) h13) else (tr_X2_change [.int x1, .int ((1 : Int32) <<< (v6 &&& 31)), .int ((1 : Int32) <<< (v9 &&& 31))] h13 fun r26 h25 => sr_I r26 fun v27 => Q (some (.int v27)) h25)) else (Q (some (.int x1)) h13)) else (Q (some (.int x1)) h1)
set_option maxRecDepth 100000 in
set_option maxHeartbeats 4000000 in
theorem bl_X2_act_0 {X : aw_X} {Q : aw_R} (C : aw_C X cX2_act RX2 5 2) (Z : aw_Z X cX2_act (some .int) Q) (x0 : Int32) (x1 : Int32) (h : aw_H) (hh : sm_X2_act_0  Q x0 x1 h) : Sat X 0 [.int x0, .int x1, Value.null, Value.null, Value.null] [] h := by
  unfold sm_X2_act_0 at hh
  refine ow_iload_n C dX2_act_0 rfl rfl ?_
  refine ow_callS C (cs_X2_isDead _) (Nat.le_of_ble_eq_true rfl) kw_23 dX2_act_1 (as := [.int x0]) (st := []) rfl rfl (Nat.le_of_ble_eq_true rfl) hh (fun r2 h1 hq => ?_)
  obtain ⟨v3, rfl, hh⟩ := sr_I_e hq
  show Sat X 4 [.int x0, .int x1, Value.null, Value.null, Value.null] [.int v3] h1
  refine ow_if_eq (tgt := 9) C dX2_act_4 (by decide) hh (fun hh => ?_) (fun hh => ?_)
  · skip
    refine ow_iconst (v := 1) C dX2_act_9 rfl ?_
    refine ow_iload_n C dX2_act_10 rfl rfl ?_
    refine ow_iconst (v := 0) C dX2_act_11 rfl ?_
    refine ow_callS C (cs_X2_wireAt _) (Nat.le_of_ble_eq_true rfl) kw_24 dX2_act_12 (as := [.int x0, .int 0]) (st := [.int 1]) rfl rfl (Nat.le_of_ble_eq_true rfl) hh (fun r5 h4 hq => ?_)
    obtain ⟨v6, rfl, hh⟩ := sr_I_e hq
    show Sat X 15 [.int x0, .int x1, Value.null, Value.null, Value.null] [.int v6, .int 1] h4
    refine ow_ishl C dX2_act_15 ?_
    refine ow_istore_n (L' := [.int x0, .int x1, .int ((1 : Int32) <<< (v6 &&& 31)), Value.null, Value.null]) C dX2_act_16 rfl (by decide) rfl ?_
    refine ow_iconst (v := 1) C dX2_act_17 rfl ?_
    refine ow_iload_n C dX2_act_18 rfl rfl ?_
    refine ow_iconst (v := 1) C dX2_act_19 rfl ?_
    refine ow_callS C (cs_X2_wireAt _) (Nat.le_of_ble_eq_true rfl) kw_24 dX2_act_20 (as := [.int x0, .int 1]) (st := [.int 1]) rfl rfl (Nat.le_of_ble_eq_true rfl) hh (fun r8 h7 hq => ?_)
    obtain ⟨v9, rfl, hh⟩ := sr_I_e hq
    show Sat X 23 [.int x0, .int x1, .int ((1 : Int32) <<< (v6 &&& 31)), Value.null, Value.null] [.int v9, .int 1] h7
    refine ow_ishl C dX2_act_23 ?_
    refine ow_istore_n (L' := [.int x0, .int x1, .int ((1 : Int32) <<< (v6 &&& 31)), .int ((1 : Int32) <<< (v9 &&& 31)), Value.null]) C dX2_act_24 rfl (by decide) rfl ?_
    refine ow_iconst (v := 1) C dX2_act_25 rfl ?_
    refine ow_iload_n C dX2_act_26 rfl rfl ?_
    refine ow_iconst (v := 2) C dX2_act_27 rfl ?_
    refine ow_callS C (cs_X2_wireAt _) (Nat.le_of_ble_eq_true rfl) kw_24 dX2_act_28 (as := [.int x0, .int 2]) (st := [.int 1]) rfl rfl (Nat.le_of_ble_eq_true rfl) hh (fun r11 h10 hq => ?_)
    obtain ⟨v12, rfl, hh⟩ := sr_I_e hq
    show Sat X 31 [.int x0, .int x1, .int ((1 : Int32) <<< (v6 &&& 31)), .int ((1 : Int32) <<< (v9 &&& 31)), Value.null] [.int v12, .int 1] h10
    refine ow_ishl C dX2_act_31 ?_
    refine ow_istore (L' := [.int x0, .int x1, .int ((1 : Int32) <<< (v6 &&& 31)), .int ((1 : Int32) <<< (v9 &&& 31)), .int ((1 : Int32) <<< (v12 &&& 31))]) C dX2_act_32 (by decide) rfl ?_
    refine ow_iload_n C dX2_act_34 rfl rfl ?_
    refine ow_callS C (cs_X2_kindOf _) (Nat.le_of_ble_eq_true rfl) kw_25 dX2_act_35 (as := [.int x0]) (st := []) rfl rfl (Nat.le_of_ble_eq_true rfl) hh (fun r14 h13 hq => ?_)
    obtain ⟨v15, rfl, hh⟩ := sr_I_e hq
    show Sat X 38 [.int x0, .int x1, .int ((1 : Int32) <<< (v6 &&& 31)), .int ((1 : Int32) <<< (v9 &&& 31)), .int ((1 : Int32) <<< (v12 &&& 31))] [.int v15] h13
    rcases if_e hh with ⟨hc0, hh⟩ | ⟨hc0, hh⟩
    · refine ow_tableIn (tgt := 72) (v := 0) C dX2_act_38 hc0 (by decide) (by decide) rfl (by decide) ?_
      refine ow_iload_n C dX2_act_72 rfl rfl ?_
      refine ow_iload_n C dX2_act_73 rfl rfl ?_
      refine ow_ixor C dX2_act_74 ?_
      exact ow_iret Z dX2_act_75 trivial hh
    rcases if_e hh with ⟨hc1, hh⟩ | ⟨hc1, hh⟩
    · refine ow_tableIn (tgt := 76) (v := 1) C dX2_act_38 hc1 (by decide) (by decide) rfl (by decide) ?_
      refine ow_iload_n C dX2_act_76 rfl rfl ?_
      refine ow_iload_n C dX2_act_77 rfl rfl ?_
      refine ow_iload_n C dX2_act_78 rfl rfl ?_
      refine ow_callS C (cs_X2_turnIf _) (Nat.le_of_ble_eq_true rfl) kw_20 dX2_act_79 (as := [.int x1, .int ((1 : Int32) <<< (v6 &&& 31)), .int ((1 : Int32) <<< (v9 &&& 31))]) (st := []) rfl rfl (Nat.le_of_ble_eq_true rfl) hh (fun r17 h16 hq => ?_)
      obtain ⟨v18, rfl, hh⟩ := sr_I_e hq
      show Sat X 82 [.int x0, .int x1, .int ((1 : Int32) <<< (v6 &&& 31)), .int ((1 : Int32) <<< (v9 &&& 31)), .int ((1 : Int32) <<< (v12 &&& 31))] [.int v18] h16
      exact ow_iret Z dX2_act_82 trivial hh
    rcases if_e hh with ⟨hc2, hh⟩ | ⟨hc2, hh⟩
    · refine ow_tableIn (tgt := 83) (v := 2) C dX2_act_38 hc2 (by decide) (by decide) rfl (by decide) ?_
      refine ow_iload_n C dX2_act_83 rfl rfl ?_
      refine ow_iload_n C dX2_act_84 rfl rfl ?_
      refine ow_iload_n C dX2_act_85 rfl rfl ?_
      refine ow_callS C (cs_X2_change _) (Nat.le_of_ble_eq_true rfl) kw_26 dX2_act_86 (as := [.int x1, .int ((1 : Int32) <<< (v6 &&& 31)), .int ((1 : Int32) <<< (v9 &&& 31))]) (st := []) rfl rfl (Nat.le_of_ble_eq_true rfl) hh (fun r20 h19 hq => ?_)
      obtain ⟨v21, rfl, hh⟩ := sr_I_e hq
      show Sat X 89 [.int x0, .int x1, .int ((1 : Int32) <<< (v6 &&& 31)), .int ((1 : Int32) <<< (v9 &&& 31)), .int ((1 : Int32) <<< (v12 &&& 31))] [.int v21] h19
      exact ow_iret Z dX2_act_89 trivial hh
    rcases if_e hh with ⟨hc3, hh⟩ | ⟨hc3, hh⟩
    · refine ow_tableIn (tgt := 90) (v := 3) C dX2_act_38 hc3 (by decide) (by decide) rfl (by decide) ?_
      refine ow_iload_n C dX2_act_90 rfl rfl ?_
      refine ow_iload C dX2_act_91 rfl ?_
      refine ow_iand C dX2_act_93 ?_
      refine ow_if_eq (tgt := 106) C dX2_act_94 (by decide) hh (fun hh => ?_) (fun hh => ?_)
      · skip
        refine ow_iload_n C dX2_act_106 rfl rfl ?_
        exact ow_iret Z dX2_act_107 trivial hh
      · skip
        refine ow_iload_n C dX2_act_97 rfl rfl ?_
        refine ow_iload_n C dX2_act_98 rfl rfl ?_
        refine ow_iload_n C dX2_act_99 rfl rfl ?_
        refine ow_callS C (cs_X2_turnIf _) (Nat.le_of_ble_eq_true rfl) kw_20 dX2_act_100 (as := [.int x1, .int ((1 : Int32) <<< (v6 &&& 31)), .int ((1 : Int32) <<< (v9 &&& 31))]) (st := []) rfl rfl (Nat.le_of_ble_eq_true rfl) hh (fun r23 h22 hq => ?_)
        obtain ⟨v24, rfl, hh⟩ := sr_I_e hq
        show Sat X 103 [.int x0, .int x1, .int ((1 : Int32) <<< (v6 &&& 31)), .int ((1 : Int32) <<< (v9 &&& 31)), .int ((1 : Int32) <<< (v12 &&& 31))] [.int v24] h22
        refine ow_goto (tgt := 107) C dX2_act_103 (by decide) ?_
        exact ow_iret Z dX2_act_107 trivial hh
    rcases if_e hh with ⟨hc4, hh⟩ | ⟨hc4, hh⟩
    · refine ow_tableIn (tgt := 108) (v := 4) C dX2_act_38 hc4 (by decide) (by decide) rfl (by decide) ?_
      refine ow_iload_n C dX2_act_108 rfl rfl ?_
      refine ow_iload C dX2_act_109 rfl ?_
      refine ow_iand C dX2_act_111 ?_
      refine ow_if_eq (tgt := 124) C dX2_act_112 (by decide) hh (fun hh => ?_) (fun hh => ?_)
      · skip
        refine ow_iload_n C dX2_act_124 rfl rfl ?_
        exact ow_iret Z dX2_act_125 trivial hh
      · skip
        refine ow_iload_n C dX2_act_115 rfl rfl ?_
        refine ow_iload_n C dX2_act_116 rfl rfl ?_
        refine ow_iload_n C dX2_act_117 rfl rfl ?_
        refine ow_callS C (cs_X2_change _) (Nat.le_of_ble_eq_true rfl) kw_26 dX2_act_118 (as := [.int x1, .int ((1 : Int32) <<< (v6 &&& 31)), .int ((1 : Int32) <<< (v9 &&& 31))]) (st := []) rfl rfl (Nat.le_of_ble_eq_true rfl) hh (fun r26 h25 hq => ?_)
        obtain ⟨v27, rfl, hh⟩ := sr_I_e hq
        show Sat X 121 [.int x0, .int x1, .int ((1 : Int32) <<< (v6 &&& 31)), .int ((1 : Int32) <<< (v9 &&& 31)), .int ((1 : Int32) <<< (v12 &&& 31))] [.int v27] h25
        refine ow_goto (tgt := 125) C dX2_act_121 (by decide) ?_
        exact ow_iret Z dX2_act_125 trivial hh
    refine ow_tableOut (tgt := 126) C dX2_act_38 (by have := lv_neT hc0 (a := 0) rfl; have := lv_neT hc1 (a := 1) rfl; have := lv_neT hc2 (a := 2) rfl; have := lv_neT hc3 (a := 3) rfl; have := lv_neT hc4 (a := 4) rfl; omega) (by decide) ?_
    refine ow_iload_n C dX2_act_126 rfl rfl ?_
    exact ow_iret Z dX2_act_127 trivial hh
  · skip
    refine ow_iload_n C dX2_act_7 rfl rfl ?_
    exact ow_iret Z dX2_act_8 trivial hh
def tr_X2_act : aw_T := fun as h Q => ∃ (x0 : Int32) (x1 : Int32), as = [.int x0, .int x1] ∧ (sm_X2_act_0  Q x0 x1 h)
theorem tq_X2_act {x0 : Int32} {x1 : Int32} {h : aw_H} {Q : aw_R} : tr_X2_act [.int x0, .int x1] h Q ↔ (sm_X2_act_0  Q x0 x1 h) := by
  constructor
  · rintro ⟨_, _, as0, hh⟩
    cases as0
    exact hh
  · intro hh
    exact ⟨_, _, rfl, hh⟩
theorem ct_X2_act (E : aw_F) : CT E yX2_act cX2_act 5 (some .int) 2 tr_X2_act := by
  refine ct_of (by decide) ?_
  intro X Q as h hE C Z hG
  subst hE
  obtain ⟨x0, x1, rfl, hh⟩ := hG
  refine ⟨[.int x0, .int x1, Value.null, Value.null, Value.null], rfl, Nat.le_of_ble_eq_true rfl, ?_⟩
  exact bl_X2_act_0 C Z x0 x1 h hh
theorem cs_X2_act (E : aw_F) : CS E yX2_act cX2_act 5 (some .int) 2 2 tr_X2_act := ⟨ct_X2_act E, by decide, kw_28, kw_12, kw_27, by decide +kernel⟩
theorem dX2_killed_0 : decode cX2_killed 0 = .ok (.iload_n 0, 1) := by decide +kernel
theorem dX2_killed_1 : decode cX2_killed 1 = .ok (.sipush 4096, 3) := by decide +kernel
theorem dX2_killed_4 : decode cX2_killed 4 = .ok (.ior, 1) := by decide +kernel
theorem dX2_killed_5 : decode cX2_killed 5 = .ok (.ireturn, 1) := by decide +kernel
def sm_X2_killed_0  (Q : aw_R) (x0 : Int32) (h : aw_H) : Prop :=
  Q (some (.int (x0 ||| 4096))) h
set_option maxRecDepth 100000 in
set_option maxHeartbeats 4000000 in
theorem bl_X2_killed_0 {X : aw_X} {Q : aw_R} (C : aw_C X cX2_killed RX2 1 0) (Z : aw_Z X cX2_killed (some .int) Q) (x0 : Int32) (h : aw_H) (hh : sm_X2_killed_0  Q x0 h) : Sat X 0 [.int x0] [] h := by
  unfold sm_X2_killed_0 at hh
  refine ow_iload_n C dX2_killed_0 rfl rfl ?_
  refine ow_sipush (v := 4096) C dX2_killed_1 rfl ?_
  refine ow_ior C dX2_killed_4 ?_
  exact ow_iret Z dX2_killed_5 trivial hh
def tr_X2_killed : aw_T := fun as h Q => ∃ (x0 : Int32), as = [.int x0] ∧ (sm_X2_killed_0  Q x0 h)
theorem tq_X2_killed {x0 : Int32} {h : aw_H} {Q : aw_R} : tr_X2_killed [.int x0] h Q ↔ (sm_X2_killed_0  Q x0 h) := by
  constructor
  · rintro ⟨_, as0, hh⟩
    cases as0
    exact hh
  · intro hh
    exact ⟨_, rfl, hh⟩
theorem ct_X2_killed (E : aw_F) : CT E yX2_killed cX2_killed 1 (some .int) 0 tr_X2_killed := by
  refine ct_of (by decide) ?_
  intro X Q as h hE C Z hG
  subst hE
  obtain ⟨x0, rfl, hh⟩ := hG
  refine ⟨[.int x0], rfl, Nat.le_of_ble_eq_true rfl, ?_⟩
  exact bl_X2_killed_0 C Z x0 h hh
theorem cs_X2_killed (E : aw_F) : CS E yX2_killed cX2_killed 1 (some .int) 0 1 tr_X2_killed := ⟨ct_X2_killed E, by decide, kw_30, kw_12, kw_29, by decide +kernel⟩
theorem dX2_wiresOf_0 : decode cX2_wiresOf 0 = .ok (.iload_n 0, 1) := by decide +kernel
theorem dX2_wiresOf_1 : decode cX2_wiresOf 1 = .ok (.ifCond .ne 5, 3) := by decide +kernel
theorem dX2_wiresOf_4 : decode cX2_wiresOf 4 = .ok (.iconst 1, 1) := by decide +kernel
theorem dX2_wiresOf_5 : decode cX2_wiresOf 5 = .ok (.ireturn, 1) := by decide +kernel
theorem dX2_wiresOf_6 : decode cX2_wiresOf 6 = .ok (.iload_n 0, 1) := by decide +kernel
theorem dX2_wiresOf_7 : decode cX2_wiresOf 7 = .ok (.iconst 1, 1) := by decide +kernel
theorem dX2_wiresOf_8 : decode cX2_wiresOf 8 = .ok (.if_icmp .eq 8, 3) := by decide +kernel
theorem dX2_wiresOf_11 : decode cX2_wiresOf 11 = .ok (.iload_n 0, 1) := by decide +kernel
theorem dX2_wiresOf_12 : decode cX2_wiresOf 12 = .ok (.iconst 2, 1) := by decide +kernel
theorem dX2_wiresOf_13 : decode cX2_wiresOf 13 = .ok (.if_icmp .ne 7, 3) := by decide +kernel
theorem dX2_wiresOf_16 : decode cX2_wiresOf 16 = .ok (.iconst 2, 1) := by decide +kernel
theorem dX2_wiresOf_17 : decode cX2_wiresOf 17 = .ok (.goto 4, 3) := by decide +kernel
theorem dX2_wiresOf_20 : decode cX2_wiresOf 20 = .ok (.iconst 3, 1) := by decide +kernel
theorem dX2_wiresOf_21 : decode cX2_wiresOf 21 = .ok (.ireturn, 1) := by decide +kernel
def sm_X2_wiresOf_0  (Q : aw_R) (x0 : Int32) (h : aw_H) : Prop :=
  if ¬ x0 = 0 then (if x0 = 1 then (Q (some (.int 2)) h) else (if ¬ x0 = 2 then (Q (some (.int 3)) h) else (Q (some (.int 2)) h))) else (Q (some (.int 1)) h)
set_option maxRecDepth 100000 in
set_option maxHeartbeats 4000000 in
theorem bl_X2_wiresOf_0 {X : aw_X} {Q : aw_R} (C : aw_C X cX2_wiresOf RX2 1 0) (Z : aw_Z X cX2_wiresOf (some .int) Q) (x0 : Int32) (h : aw_H) (hh : sm_X2_wiresOf_0  Q x0 h) : Sat X 0 [.int x0] [] h := by
  unfold sm_X2_wiresOf_0 at hh
  refine ow_iload_n C dX2_wiresOf_0 rfl rfl ?_
  refine ow_if_ne (tgt := 6) C dX2_wiresOf_1 (by decide) hh (fun hh => ?_) (fun hh => ?_)
  · skip
    refine ow_iload_n C dX2_wiresOf_6 rfl rfl ?_
    refine ow_iconst (v := 1) C dX2_wiresOf_7 rfl ?_
    refine ow_icmp_eq (tgt := 16) C dX2_wiresOf_8 (by decide) hh (fun hh => ?_) (fun hh => ?_)
    · skip
      refine ow_iconst (v := 2) C dX2_wiresOf_16 rfl ?_
      refine ow_goto (tgt := 21) C dX2_wiresOf_17 (by decide) ?_
      exact ow_iret Z dX2_wiresOf_21 trivial hh
    · skip
      refine ow_iload_n C dX2_wiresOf_11 rfl rfl ?_
      refine ow_iconst (v := 2) C dX2_wiresOf_12 rfl ?_
      refine ow_icmp_ne (tgt := 20) C dX2_wiresOf_13 (by decide) hh (fun hh => ?_) (fun hh => ?_)
      · skip
        refine ow_iconst (v := 3) C dX2_wiresOf_20 rfl ?_
        exact ow_iret Z dX2_wiresOf_21 trivial hh
      · skip
        refine ow_iconst (v := 2) C dX2_wiresOf_16 rfl ?_
        refine ow_goto (tgt := 21) C dX2_wiresOf_17 (by decide) ?_
        exact ow_iret Z dX2_wiresOf_21 trivial hh
  · skip
    refine ow_iconst (v := 1) C dX2_wiresOf_4 rfl ?_
    exact ow_iret Z dX2_wiresOf_5 trivial hh
def tr_X2_wiresOf : aw_T := fun as h Q => ∃ (x0 : Int32), as = [.int x0] ∧ (sm_X2_wiresOf_0  Q x0 h)
theorem tq_X2_wiresOf {x0 : Int32} {h : aw_H} {Q : aw_R} : tr_X2_wiresOf [.int x0] h Q ↔ (sm_X2_wiresOf_0  Q x0 h) := by
  constructor
  · rintro ⟨_, as0, hh⟩
    cases as0
    exact hh
  · intro hh
    exact ⟨_, rfl, hh⟩
theorem ct_X2_wiresOf (E : aw_F) : CT E yX2_wiresOf cX2_wiresOf 1 (some .int) 0 tr_X2_wiresOf := by
  refine ct_of (by decide) ?_
  intro X Q as h hE C Z hG
  subst hE
  obtain ⟨x0, rfl, hh⟩ := hG
  refine ⟨[.int x0], rfl, Nat.le_of_ble_eq_true rfl, ?_⟩
  exact bl_X2_wiresOf_0 C Z x0 h hh
theorem cs_X2_wiresOf (E : aw_F) : CS E yX2_wiresOf cX2_wiresOf 1 (some .int) 0 1 tr_X2_wiresOf := ⟨ct_X2_wiresOf E, by decide, kw_32, kw_12, kw_31, by decide +kernel⟩
theorem dX2_areUnlike_0 : decode cX2_areUnlike 0 = .ok (.iload_n 0, 1) := by decide +kernel
theorem dX2_areUnlike_1 : decode cX2_areUnlike 1 = .ok (.invokestatic 9, 3) := by decide +kernel
theorem dX2_areUnlike_4 : decode cX2_areUnlike 4 = .ok (.istore 4, 2) := by decide +kernel
theorem dX2_areUnlike_6 : decode cX2_areUnlike 6 = .ok (.iload 4, 2) := by decide +kernel
theorem dX2_areUnlike_8 : decode cX2_areUnlike 8 = .ok (.iconst 2, 1) := by decide +kernel
theorem dX2_areUnlike_9 : decode cX2_areUnlike 9 = .ok (.if_icmp .lt 8, 3) := by decide +kernel
theorem dX2_areUnlike_12 : decode cX2_areUnlike 12 = .ok (.iload_n 1, 1) := by decide +kernel
theorem dX2_areUnlike_13 : decode cX2_areUnlike 13 = .ok (.iload_n 2, 1) := by decide +kernel
theorem dX2_areUnlike_14 : decode cX2_areUnlike 14 = .ok (.if_icmp .eq 23, 3) := by decide +kernel
theorem dX2_areUnlike_17 : decode cX2_areUnlike 17 = .ok (.iload 4, 2) := by decide +kernel
theorem dX2_areUnlike_19 : decode cX2_areUnlike 19 = .ok (.iconst 3, 1) := by decide +kernel
theorem dX2_areUnlike_20 : decode cX2_areUnlike 20 = .ok (.if_icmp .lt 13, 3) := by decide +kernel
theorem dX2_areUnlike_23 : decode cX2_areUnlike 23 = .ok (.iload_n 1, 1) := by decide +kernel
theorem dX2_areUnlike_24 : decode cX2_areUnlike 24 = .ok (.iload_n 3, 1) := by decide +kernel
theorem dX2_areUnlike_25 : decode cX2_areUnlike 25 = .ok (.if_icmp .eq 12, 3) := by decide +kernel
theorem dX2_areUnlike_28 : decode cX2_areUnlike 28 = .ok (.iload_n 2, 1) := by decide +kernel
theorem dX2_areUnlike_29 : decode cX2_areUnlike 29 = .ok (.iload_n 3, 1) := by decide +kernel
theorem dX2_areUnlike_30 : decode cX2_areUnlike 30 = .ok (.if_icmp .eq 7, 3) := by decide +kernel
theorem dX2_areUnlike_33 : decode cX2_areUnlike 33 = .ok (.iconst 1, 1) := by decide +kernel
theorem dX2_areUnlike_34 : decode cX2_areUnlike 34 = .ok (.goto 4, 3) := by decide +kernel
theorem dX2_areUnlike_37 : decode cX2_areUnlike 37 = .ok (.iconst 0, 1) := by decide +kernel
theorem dX2_areUnlike_38 : decode cX2_areUnlike 38 = .ok (.ireturn, 1) := by decide +kernel
def sm_X2_areUnlike_17  (Q : aw_R) (x1 : Int32) (x2 : Int32) (x3 : Int32) (x4 : Int32) (h : aw_H) : Prop :=
  if x4 < 3 then (Q (some (.int 1)) h) else (if x1 = x3 then (Q (some (.int 0)) h) else (if x2 = x3 then (Q (some (.int 0)) h) else (Q (some (.int 1)) h)))
set_option maxRecDepth 100000 in
set_option maxHeartbeats 4000000 in
theorem bl_X2_areUnlike_17 {X : aw_X} {Q : aw_R} (C : aw_C X cX2_areUnlike RX2 5 1) (Z : aw_Z X cX2_areUnlike (some .boolean) Q) (x1 : Int32) (x2 : Int32) (x3 : Int32) (x4 : Int32) (h : aw_H) (hh : sm_X2_areUnlike_17  Q x1 x2 x3 x4 h) : Sat X 17 [Value.null, .int x1, .int x2, .int x3, .int x4] [] h := by
  unfold sm_X2_areUnlike_17 at hh
  refine ow_iload C dX2_areUnlike_17 rfl ?_
  refine ow_iconst (v := 3) C dX2_areUnlike_19 rfl ?_
  refine ow_icmp_lt (tgt := 33) C dX2_areUnlike_20 (by decide) hh (fun hh => ?_) (fun hh => ?_)
  · skip
    refine ow_iconst (v := 1) C dX2_areUnlike_33 rfl ?_
    refine ow_goto (tgt := 38) C dX2_areUnlike_34 (by decide) ?_
    exact ow_iret Z dX2_areUnlike_38 (Or.inr rfl) hh
  · skip
    refine ow_iload_n C dX2_areUnlike_23 rfl rfl ?_
    refine ow_iload_n C dX2_areUnlike_24 rfl rfl ?_
    refine ow_icmp_eq (tgt := 37) C dX2_areUnlike_25 (by decide) hh (fun hh => ?_) (fun hh => ?_)
    · skip
      refine ow_iconst (v := 0) C dX2_areUnlike_37 rfl ?_
      exact ow_iret Z dX2_areUnlike_38 (Or.inl rfl) hh
    · skip
      refine ow_iload_n C dX2_areUnlike_28 rfl rfl ?_
      refine ow_iload_n C dX2_areUnlike_29 rfl rfl ?_
      refine ow_icmp_eq (tgt := 37) C dX2_areUnlike_30 (by decide) hh (fun hh => ?_) (fun hh => ?_)
      · skip
        refine ow_iconst (v := 0) C dX2_areUnlike_37 rfl ?_
        exact ow_iret Z dX2_areUnlike_38 (Or.inl rfl) hh
      · skip
        refine ow_iconst (v := 1) C dX2_areUnlike_33 rfl ?_
        refine ow_goto (tgt := 38) C dX2_areUnlike_34 (by decide) ?_
        exact ow_iret Z dX2_areUnlike_38 (Or.inr rfl) hh
def sm_X2_areUnlike_0  (Q : aw_R) (x0 : Int32) (x1 : Int32) (x2 : Int32) (x3 : Int32) (h : aw_H) : Prop :=
  tr_X2_wiresOf [.int x0] h fun r2 h1 => sr_I r2 fun v3 => if v3 < 2 then (sm_X2_areUnlike_17  Q x1 x2 x3 v3 h1) else (if x1 = x2 then (Q (some (.int 0)) h1) else (sm_X2_areUnlike_17  Q x1 x2 x3 v3 h1))
set_option maxRecDepth 100000 in
set_option maxHeartbeats 4000000 in
theorem bl_X2_areUnlike_0 {X : aw_X} {Q : aw_R} (C : aw_C X cX2_areUnlike RX2 5 1) (Z : aw_Z X cX2_areUnlike (some .boolean) Q) (x0 : Int32) (x1 : Int32) (x2 : Int32) (x3 : Int32) (h : aw_H) (hh : sm_X2_areUnlike_0  Q x0 x1 x2 x3 h) : Sat X 0 [.int x0, .int x1, .int x2, .int x3, Value.null] [] h := by
  unfold sm_X2_areUnlike_0 at hh
  refine ow_iload_n C dX2_areUnlike_0 rfl rfl ?_
  refine ow_callS C (cs_X2_wiresOf _) (Nat.le_of_ble_eq_true rfl) kw_33 dX2_areUnlike_1 (as := [.int x0]) (st := []) rfl rfl (Nat.le_of_ble_eq_true rfl) hh (fun r2 h1 hq => ?_)
  obtain ⟨v3, rfl, hh⟩ := sr_I_e hq
  show Sat X 4 [.int x0, .int x1, .int x2, .int x3, Value.null] [.int v3] h1
  refine ow_istore (L' := [.int x0, .int x1, .int x2, .int x3, .int v3]) C dX2_areUnlike_4 (by decide) rfl ?_
  refine ow_iload C dX2_areUnlike_6 rfl ?_
  refine ow_iconst (v := 2) C dX2_areUnlike_8 rfl ?_
  refine ow_icmp_lt (tgt := 17) C dX2_areUnlike_9 (by decide) hh (fun hh => ?_) (fun hh => ?_)
  · skip
    exact Sat.mask (bl_X2_areUnlike_17 C Z x1 x2 x3 v3 h1 hh) (mk_n (mk_y (mk_y (mk_y (mk_y mk_0)))))
  · skip
    refine ow_iload_n C dX2_areUnlike_12 rfl rfl ?_
    refine ow_iload_n C dX2_areUnlike_13 rfl rfl ?_
    refine ow_icmp_eq (tgt := 37) C dX2_areUnlike_14 (by decide) hh (fun hh => ?_) (fun hh => ?_)
    · skip
      refine ow_iconst (v := 0) C dX2_areUnlike_37 rfl ?_
      exact ow_iret Z dX2_areUnlike_38 (Or.inl rfl) hh
    · skip
      exact Sat.mask (bl_X2_areUnlike_17 C Z x1 x2 x3 v3 h1 hh) (mk_n (mk_y (mk_y (mk_y (mk_y mk_0)))))
def tr_X2_areUnlike : aw_T := fun as h Q => ∃ (x0 : Int32) (x1 : Int32) (x2 : Int32) (x3 : Int32), as = [.int x0, .int x1, .int x2, .int x3] ∧ (sm_X2_areUnlike_0  Q x0 x1 x2 x3 h)
theorem tq_X2_areUnlike {x0 : Int32} {x1 : Int32} {x2 : Int32} {x3 : Int32} {h : aw_H} {Q : aw_R} : tr_X2_areUnlike [.int x0, .int x1, .int x2, .int x3] h Q ↔ (sm_X2_areUnlike_0  Q x0 x1 x2 x3 h) := by
  constructor
  · rintro ⟨_, _, _, _, as0, hh⟩
    cases as0
    exact hh
  · intro hh
    exact ⟨_, _, _, _, rfl, hh⟩
theorem ct_X2_areUnlike (E : aw_F) : CT E yX2_areUnlike cX2_areUnlike 5 (some .boolean) 1 tr_X2_areUnlike := by
  refine ct_of (by decide) ?_
  intro X Q as h hE C Z hG
  subst hE
  obtain ⟨x0, x1, x2, x3, rfl, hh⟩ := hG
  refine ⟨[.int x0, .int x1, .int x2, .int x3, Value.null], rfl, Nat.le_of_ble_eq_true rfl, ?_⟩
  exact bl_X2_areUnlike_0 C Z x0 x1 x2 x3 h hh
theorem cs_X2_areUnlike (E : aw_F) : CS E yX2_areUnlike cX2_areUnlike 5 (some .boolean) 1 4 tr_X2_areUnlike := ⟨ct_X2_areUnlike E, by decide, kw_35, kw_12, kw_34, by decide +kernel⟩
theorem dX2_asKind_0 : decode cX2_asKind 0 = .ok (.iload_n 0, 1) := by decide +kernel
theorem dX2_asKind_1 : decode cX2_asKind 1 = .ok (.bipush (-8), 2) := by decide +kernel
theorem dX2_asKind_3 : decode cX2_asKind 3 = .ok (.iand, 1) := by decide +kernel
theorem dX2_asKind_4 : decode cX2_asKind 4 = .ok (.iload_n 1, 1) := by decide +kernel
theorem dX2_asKind_5 : decode cX2_asKind 5 = .ok (.ior, 1) := by decide +kernel
theorem dX2_asKind_6 : decode cX2_asKind 6 = .ok (.ireturn, 1) := by decide +kernel
def sm_X2_asKind_0  (Q : aw_R) (x0 : Int32) (x1 : Int32) (h : aw_H) : Prop :=
  Q (some (.int ((x0 &&& ((-8))) ||| x1))) h
set_option maxRecDepth 100000 in
set_option maxHeartbeats 4000000 in
theorem bl_X2_asKind_0 {X : aw_X} {Q : aw_R} (C : aw_C X cX2_asKind RX2 2 0) (Z : aw_Z X cX2_asKind (some .int) Q) (x0 : Int32) (x1 : Int32) (h : aw_H) (hh : sm_X2_asKind_0  Q x0 x1 h) : Sat X 0 [.int x0, .int x1] [] h := by
  unfold sm_X2_asKind_0 at hh
  refine ow_iload_n C dX2_asKind_0 rfl rfl ?_
  refine ow_bipush (v := (-8)) C dX2_asKind_1 rfl ?_
  refine ow_iand C dX2_asKind_3 ?_
  refine ow_iload_n C dX2_asKind_4 rfl rfl ?_
  refine ow_ior C dX2_asKind_5 ?_
  exact ow_iret Z dX2_asKind_6 trivial hh
def tr_X2_asKind : aw_T := fun as h Q => ∃ (x0 : Int32) (x1 : Int32), as = [.int x0, .int x1] ∧ (sm_X2_asKind_0  Q x0 x1 h)
theorem tq_X2_asKind {x0 : Int32} {x1 : Int32} {h : aw_H} {Q : aw_R} : tr_X2_asKind [.int x0, .int x1] h Q ↔ (sm_X2_asKind_0  Q x0 x1 h) := by
  constructor
  · rintro ⟨_, _, as0, hh⟩
    cases as0
    exact hh
  · intro hh
    exact ⟨_, _, rfl, hh⟩
theorem ct_X2_asKind (E : aw_F) : CT E yX2_asKind cX2_asKind 2 (some .int) 0 tr_X2_asKind := by
  refine ct_of (by decide) ?_
  intro X Q as h hE C Z hG
  subst hE
  obtain ⟨x0, x1, rfl, hh⟩ := hG
  refine ⟨[.int x0, .int x1], rfl, Nat.le_of_ble_eq_true rfl, ?_⟩
  exact bl_X2_asKind_0 C Z x0 x1 h hh
theorem cs_X2_asKind (E : aw_F) : CS E yX2_asKind cX2_asKind 2 (some .int) 0 2 tr_X2_asKind := ⟨ct_X2_asKind E, by decide, kw_37, kw_12, kw_36, by decide +kernel⟩
theorem dX2_pack_0 : decode cX2_pack 0 = .ok (.iload_n 0, 1) := by decide +kernel
theorem dX2_pack_1 : decode cX2_pack 1 = .ok (.iload_n 1, 1) := by decide +kernel
theorem dX2_pack_2 : decode cX2_pack 2 = .ok (.iconst 3, 1) := by decide +kernel
theorem dX2_pack_3 : decode cX2_pack 3 = .ok (.ishl, 1) := by decide +kernel
theorem dX2_pack_4 : decode cX2_pack 4 = .ok (.ior, 1) := by decide +kernel
theorem dX2_pack_5 : decode cX2_pack 5 = .ok (.iload_n 2, 1) := by decide +kernel
theorem dX2_pack_6 : decode cX2_pack 6 = .ok (.bipush 6, 2) := by decide +kernel
theorem dX2_pack_8 : decode cX2_pack 8 = .ok (.ishl, 1) := by decide +kernel
theorem dX2_pack_9 : decode cX2_pack 9 = .ok (.ior, 1) := by decide +kernel
theorem dX2_pack_10 : decode cX2_pack 10 = .ok (.iload_n 3, 1) := by decide +kernel
theorem dX2_pack_11 : decode cX2_pack 11 = .ok (.bipush 9, 2) := by decide +kernel
theorem dX2_pack_13 : decode cX2_pack 13 = .ok (.ishl, 1) := by decide +kernel
theorem dX2_pack_14 : decode cX2_pack 14 = .ok (.ior, 1) := by decide +kernel
theorem dX2_pack_15 : decode cX2_pack 15 = .ok (.ireturn, 1) := by decide +kernel
def sm_X2_pack_0  (Q : aw_R) (x0 : Int32) (x1 : Int32) (x2 : Int32) (x3 : Int32) (h : aw_H) : Prop :=
  Q (some (.int (((x0 ||| (x1 <<< (3 &&& 31))) ||| (x2 <<< (6 &&& 31))) ||| (x3 <<< (9 &&& 31))))) h
set_option maxRecDepth 100000 in
set_option maxHeartbeats 4000000 in
theorem bl_X2_pack_0 {X : aw_X} {Q : aw_R} (C : aw_C X cX2_pack RX2 4 0) (Z : aw_Z X cX2_pack (some .int) Q) (x0 : Int32) (x1 : Int32) (x2 : Int32) (x3 : Int32) (h : aw_H) (hh : sm_X2_pack_0  Q x0 x1 x2 x3 h) : Sat X 0 [.int x0, .int x1, .int x2, .int x3] [] h := by
  unfold sm_X2_pack_0 at hh
  refine ow_iload_n C dX2_pack_0 rfl rfl ?_
  refine ow_iload_n C dX2_pack_1 rfl rfl ?_
  refine ow_iconst (v := 3) C dX2_pack_2 rfl ?_
  refine ow_ishl C dX2_pack_3 ?_
  refine ow_ior C dX2_pack_4 ?_
  refine ow_iload_n C dX2_pack_5 rfl rfl ?_
  refine ow_bipush (v := 6) C dX2_pack_6 rfl ?_
  refine ow_ishl C dX2_pack_8 ?_
  refine ow_ior C dX2_pack_9 ?_
  refine ow_iload_n C dX2_pack_10 rfl rfl ?_
  refine ow_bipush (v := 9) C dX2_pack_11 rfl ?_
  refine ow_ishl C dX2_pack_13 ?_
  refine ow_ior C dX2_pack_14 ?_
  exact ow_iret Z dX2_pack_15 trivial hh
def tr_X2_pack : aw_T := fun as h Q => ∃ (x0 : Int32) (x1 : Int32) (x2 : Int32) (x3 : Int32), as = [.int x0, .int x1, .int x2, .int x3] ∧ (sm_X2_pack_0  Q x0 x1 x2 x3 h)
theorem tq_X2_pack {x0 : Int32} {x1 : Int32} {x2 : Int32} {x3 : Int32} {h : aw_H} {Q : aw_R} : tr_X2_pack [.int x0, .int x1, .int x2, .int x3] h Q ↔ (sm_X2_pack_0  Q x0 x1 x2 x3 h) := by
  constructor
  · rintro ⟨_, _, _, _, as0, hh⟩
    cases as0
    exact hh
  · intro hh
    exact ⟨_, _, _, _, rfl, hh⟩
theorem ct_X2_pack (E : aw_F) : CT E yX2_pack cX2_pack 4 (some .int) 0 tr_X2_pack := by
  refine ct_of (by decide) ?_
  intro X Q as h hE C Z hG
  subst hE
  obtain ⟨x0, x1, x2, x3, rfl, hh⟩ := hG
  refine ⟨[.int x0, .int x1, .int x2, .int x3], rfl, Nat.le_of_ble_eq_true rfl, ?_⟩
  exact bl_X2_pack_0 C Z x0 x1 x2 x3 h hh
theorem cs_X2_pack (E : aw_F) : CS E yX2_pack cX2_pack 4 (some .int) 0 4 tr_X2_pack := ⟨ct_X2_pack E, by decide, kw_39, kw_12, kw_38, by decide +kernel⟩
theorem dX2_healed_0 : decode cX2_healed 0 = .ok (.iload_n 0, 1) := by decide +kernel
theorem dX2_healed_1 : decode cX2_healed 1 = .ok (.sipush (-4097), 3) := by decide +kernel
theorem dX2_healed_4 : decode cX2_healed 4 = .ok (.iand, 1) := by decide +kernel
theorem dX2_healed_5 : decode cX2_healed 5 = .ok (.ireturn, 1) := by decide +kernel
def sm_X2_healed_0  (Q : aw_R) (x0 : Int32) (h : aw_H) : Prop :=
  Q (some (.int (x0 &&& ((-4097))))) h
set_option maxRecDepth 100000 in
set_option maxHeartbeats 4000000 in
theorem bl_X2_healed_0 {X : aw_X} {Q : aw_R} (C : aw_C X cX2_healed RX2 1 0) (Z : aw_Z X cX2_healed (some .int) Q) (x0 : Int32) (h : aw_H) (hh : sm_X2_healed_0  Q x0 h) : Sat X 0 [.int x0] [] h := by
  unfold sm_X2_healed_0 at hh
  refine ow_iload_n C dX2_healed_0 rfl rfl ?_
  refine ow_sipush (v := (-4097)) C dX2_healed_1 rfl ?_
  refine ow_iand C dX2_healed_4 ?_
  exact ow_iret Z dX2_healed_5 trivial hh
def tr_X2_healed : aw_T := fun as h Q => ∃ (x0 : Int32), as = [.int x0] ∧ (sm_X2_healed_0  Q x0 h)
theorem tq_X2_healed {x0 : Int32} {h : aw_H} {Q : aw_R} : tr_X2_healed [.int x0] h Q ↔ (sm_X2_healed_0  Q x0 h) := by
  constructor
  · rintro ⟨_, as0, hh⟩
    cases as0
    exact hh
  · intro hh
    exact ⟨_, rfl, hh⟩
theorem ct_X2_healed (E : aw_F) : CT E yX2_healed cX2_healed 1 (some .int) 0 tr_X2_healed := by
  refine ct_of (by decide) ?_
  intro X Q as h hE C Z hG
  subst hE
  obtain ⟨x0, rfl, hh⟩ := hG
  refine ⟨[.int x0], rfl, Nat.le_of_ble_eq_true rfl, ?_⟩
  exact bl_X2_healed_0 C Z x0 h hh
theorem cs_X2_healed (E : aw_F) : CS E yX2_healed cX2_healed 1 (some .int) 0 1 tr_X2_healed := ⟨ct_X2_healed E, by decide, kw_41, kw_12, kw_40, by decide +kernel⟩
theorem dX2_kindNamed_0 : decode cX2_kindNamed 0 = .ok (.iload_n 0, 1) := by decide +kernel
theorem dX2_kindNamed_1 : decode cX2_kindNamed 1 = .ok (.lookupswitch 61 #[(98, 57), (99, 55), (105, 53), (112, 59), (116, 51)], 51) := by decide +kernel
theorem dX2_kindNamed_52 : decode cX2_kindNamed 52 = .ok (.iconst 0, 1) := by decide +kernel
theorem dX2_kindNamed_53 : decode cX2_kindNamed 53 = .ok (.ireturn, 1) := by decide +kernel
theorem dX2_kindNamed_54 : decode cX2_kindNamed 54 = .ok (.iconst 1, 1) := by decide +kernel
theorem dX2_kindNamed_55 : decode cX2_kindNamed 55 = .ok (.ireturn, 1) := by decide +kernel
theorem dX2_kindNamed_56 : decode cX2_kindNamed 56 = .ok (.iconst 2, 1) := by decide +kernel
theorem dX2_kindNamed_57 : decode cX2_kindNamed 57 = .ok (.ireturn, 1) := by decide +kernel
theorem dX2_kindNamed_58 : decode cX2_kindNamed 58 = .ok (.iconst 3, 1) := by decide +kernel
theorem dX2_kindNamed_59 : decode cX2_kindNamed 59 = .ok (.ireturn, 1) := by decide +kernel
theorem dX2_kindNamed_60 : decode cX2_kindNamed 60 = .ok (.iconst 4, 1) := by decide +kernel
theorem dX2_kindNamed_61 : decode cX2_kindNamed 61 = .ok (.ireturn, 1) := by decide +kernel
theorem dX2_kindNamed_62 : decode cX2_kindNamed 62 = .ok (.iconst (-1), 1) := by decide +kernel
theorem dX2_kindNamed_63 : decode cX2_kindNamed 63 = .ok (.ireturn, 1) := by decide +kernel
def sm_X2_kindNamed_0  (Q : aw_R) (x0 : Int32) (h : aw_H) : Prop :=
  if x0 = 98 then (Q (some (.int 3)) h) else if x0 = 99 then (Q (some (.int 2)) h) else if x0 = 105 then (Q (some (.int 1)) h) else if x0 = 112 then (Q (some (.int 4)) h) else if x0 = 116 then (Q (some (.int 0)) h) else (Q (some (.int ((-1)))) h)
set_option maxRecDepth 100000 in
set_option maxHeartbeats 4000000 in
theorem bl_X2_kindNamed_0 {X : aw_X} {Q : aw_R} (C : aw_C X cX2_kindNamed RX2 1 0) (Z : aw_Z X cX2_kindNamed (some .int) Q) (x0 : Int32) (h : aw_H) (hh : sm_X2_kindNamed_0  Q x0 h) : Sat X 0 [.int x0] [] h := by
  unfold sm_X2_kindNamed_0 at hh
  refine ow_iload_n C dX2_kindNamed_0 rfl rfl ?_
  rcases if_e hh with ⟨hc98, hh⟩ | ⟨hc98, hh⟩
  · refine ow_lookup (tgt := 58) (off := 57) C dX2_kindNamed_1 (by decide) (by first | (rw [hc98]; done) | (rw [hc98]; rfl)) (by decide) ?_
    refine ow_iconst (v := 3) C dX2_kindNamed_58 rfl ?_
    exact ow_iret Z dX2_kindNamed_59 trivial hh
  rcases if_e hh with ⟨hc99, hh⟩ | ⟨hc99, hh⟩
  · refine ow_lookup (tgt := 56) (off := 55) C dX2_kindNamed_1 (by decide) (by first | (rw [hc99]; done) | (rw [hc99]; rfl)) (by decide) ?_
    refine ow_iconst (v := 2) C dX2_kindNamed_56 rfl ?_
    exact ow_iret Z dX2_kindNamed_57 trivial hh
  rcases if_e hh with ⟨hc105, hh⟩ | ⟨hc105, hh⟩
  · refine ow_lookup (tgt := 54) (off := 53) C dX2_kindNamed_1 (by decide) (by first | (rw [hc105]; done) | (rw [hc105]; rfl)) (by decide) ?_
    refine ow_iconst (v := 1) C dX2_kindNamed_54 rfl ?_
    exact ow_iret Z dX2_kindNamed_55 trivial hh
  rcases if_e hh with ⟨hc112, hh⟩ | ⟨hc112, hh⟩
  · refine ow_lookup (tgt := 60) (off := 59) C dX2_kindNamed_1 (by decide) (by first | (rw [hc112]; done) | (rw [hc112]; rfl)) (by decide) ?_
    refine ow_iconst (v := 4) C dX2_kindNamed_60 rfl ?_
    exact ow_iret Z dX2_kindNamed_61 trivial hh
  rcases if_e hh with ⟨hc116, hh⟩ | ⟨hc116, hh⟩
  · refine ow_lookup (tgt := 52) (off := 51) C dX2_kindNamed_1 (by decide) (by first | (rw [hc116]; done) | (rw [hc116]; rfl)) (by decide) ?_
    refine ow_iconst (v := 0) C dX2_kindNamed_52 rfl ?_
    exact ow_iret Z dX2_kindNamed_53 trivial hh
  refine ow_lookup (tgt := 62) (off := 61) C dX2_kindNamed_1 (by decide) (by show Op.lookupswitch.offset [(98, 57), (99, 55), (105, 53), (112, 59), (116, 51)] 61 _ = _; rw [lv_osw (a := 98) hc98 rfl]; rw [lv_osw (a := 99) hc99 rfl]; rw [lv_osw (a := 105) hc105 rfl]; rw [lv_osw (a := 112) hc112 rfl]; rw [lv_osw (a := 116) hc116 rfl]; rfl) (by decide) ?_
  refine ow_iconst (v := (-1)) C dX2_kindNamed_62 rfl ?_
  exact ow_iret Z dX2_kindNamed_63 trivial hh
def tr_X2_kindNamed : aw_T := fun as h Q => ∃ (x0 : Int32), as = [.int x0] ∧ (sm_X2_kindNamed_0  Q x0 h)
theorem tq_X2_kindNamed {x0 : Int32} {h : aw_H} {Q : aw_R} : tr_X2_kindNamed [.int x0] h Q ↔ (sm_X2_kindNamed_0  Q x0 h) := by
  constructor
  · rintro ⟨_, as0, hh⟩
    cases as0
    exact hh
  · intro hh
    exact ⟨_, rfl, hh⟩
theorem ct_X2_kindNamed (E : aw_F) : CT E yX2_kindNamed cX2_kindNamed 1 (some .int) 0 tr_X2_kindNamed := by
  refine ct_of (by decide) ?_
  intro X Q as h hE C Z hG
  subst hE
  obtain ⟨x0, rfl, hh⟩ := hG
  refine ⟨[.int x0], rfl, Nat.le_of_ble_eq_true rfl, ?_⟩
  exact bl_X2_kindNamed_0 C Z x0 h hh
theorem cs_X2_kindNamed (E : aw_F) : CS E yX2_kindNamed cX2_kindNamed 1 (some .int) 0 1 tr_X2_kindNamed := ⟨ct_X2_kindNamed E, by decide, kw_43, kw_12, kw_42, by decide +kernel⟩
theorem dX2_mayLie_0 : decode cX2_mayLie 0 = .ok (.iload_n 0, 1) := by decide +kernel
theorem dX2_mayLie_1 : decode cX2_mayLie 1 = .ok (.ifCond .lt 38, 3) := by decide +kernel
theorem dX2_mayLie_4 : decode cX2_mayLie 4 = .ok (.iload_n 0, 1) := by decide +kernel
theorem dX2_mayLie_5 : decode cX2_mayLie 5 = .ok (.iconst 5, 1) := by decide +kernel
theorem dX2_mayLie_6 : decode cX2_mayLie 6 = .ok (.if_icmp .ge 33, 3) := by decide +kernel
theorem dX2_mayLie_9 : decode cX2_mayLie 9 = .ok (.iload_n 1, 1) := by decide +kernel
theorem dX2_mayLie_10 : decode cX2_mayLie 10 = .ok (.ifCond .lt 29, 3) := by decide +kernel
theorem dX2_mayLie_13 : decode cX2_mayLie 13 = .ok (.iload_n 2, 1) := by decide +kernel
theorem dX2_mayLie_14 : decode cX2_mayLie 14 = .ok (.ifCond .lt 25, 3) := by decide +kernel
theorem dX2_mayLie_17 : decode cX2_mayLie 17 = .ok (.iload_n 3, 1) := by decide +kernel
theorem dX2_mayLie_18 : decode cX2_mayLie 18 = .ok (.ifCond .lt 21, 3) := by decide +kernel
theorem dX2_mayLie_21 : decode cX2_mayLie 21 = .ok (.iload_n 1, 1) := by decide +kernel
theorem dX2_mayLie_22 : decode cX2_mayLie 22 = .ok (.iload 4, 2) := by decide +kernel
theorem dX2_mayLie_24 : decode cX2_mayLie 24 = .ok (.if_icmp .ge 15, 3) := by decide +kernel
theorem dX2_mayLie_27 : decode cX2_mayLie 27 = .ok (.iload_n 2, 1) := by decide +kernel
theorem dX2_mayLie_28 : decode cX2_mayLie 28 = .ok (.iload 4, 2) := by decide +kernel
theorem dX2_mayLie_30 : decode cX2_mayLie 30 = .ok (.if_icmp .ge 9, 3) := by decide +kernel
theorem dX2_mayLie_33 : decode cX2_mayLie 33 = .ok (.iload_n 3, 1) := by decide +kernel
theorem dX2_mayLie_34 : decode cX2_mayLie 34 = .ok (.iload 4, 2) := by decide +kernel
theorem dX2_mayLie_36 : decode cX2_mayLie 36 = .ok (.if_icmp .lt 5, 3) := by decide +kernel
theorem dX2_mayLie_39 : decode cX2_mayLie 39 = .ok (.iconst 0, 1) := by decide +kernel
theorem dX2_mayLie_40 : decode cX2_mayLie 40 = .ok (.ireturn, 1) := by decide +kernel
theorem dX2_mayLie_41 : decode cX2_mayLie 41 = .ok (.iload_n 0, 1) := by decide +kernel
theorem dX2_mayLie_42 : decode cX2_mayLie 42 = .ok (.invokestatic 9, 3) := by decide +kernel
theorem dX2_mayLie_45 : decode cX2_mayLie 45 = .ok (.istore 5, 2) := by decide +kernel
theorem dX2_mayLie_47 : decode cX2_mayLie 47 = .ok (.iload 5, 2) := by decide +kernel
theorem dX2_mayLie_49 : decode cX2_mayLie 49 = .ok (.iconst 1, 1) := by decide +kernel
theorem dX2_mayLie_50 : decode cX2_mayLie 50 = .ok (.if_icmp .gt 7, 3) := by decide +kernel
theorem dX2_mayLie_53 : decode cX2_mayLie 53 = .ok (.iload_n 2, 1) := by decide +kernel
theorem dX2_mayLie_54 : decode cX2_mayLie 54 = .ok (.ifCond .ne 27, 3) := by decide +kernel
theorem dX2_mayLie_57 : decode cX2_mayLie 57 = .ok (.iload 5, 2) := by decide +kernel
theorem dX2_mayLie_59 : decode cX2_mayLie 59 = .ok (.iconst 2, 1) := by decide +kernel
theorem dX2_mayLie_60 : decode cX2_mayLie 60 = .ok (.if_icmp .gt 7, 3) := by decide +kernel
theorem dX2_mayLie_63 : decode cX2_mayLie 63 = .ok (.iload_n 3, 1) := by decide +kernel
theorem dX2_mayLie_64 : decode cX2_mayLie 64 = .ok (.ifCond .ne 17, 3) := by decide +kernel
theorem dX2_mayLie_67 : decode cX2_mayLie 67 = .ok (.iload_n 0, 1) := by decide +kernel
theorem dX2_mayLie_68 : decode cX2_mayLie 68 = .ok (.iload_n 1, 1) := by decide +kernel
theorem dX2_mayLie_69 : decode cX2_mayLie 69 = .ok (.iload_n 2, 1) := by decide +kernel
theorem dX2_mayLie_70 : decode cX2_mayLie 70 = .ok (.iload_n 3, 1) := by decide +kernel
theorem dX2_mayLie_71 : decode cX2_mayLie 71 = .ok (.invokestatic 13, 3) := by decide +kernel
theorem dX2_mayLie_74 : decode cX2_mayLie 74 = .ok (.ifCond .eq 7, 3) := by decide +kernel
theorem dX2_mayLie_77 : decode cX2_mayLie 77 = .ok (.iconst 1, 1) := by decide +kernel
theorem dX2_mayLie_78 : decode cX2_mayLie 78 = .ok (.goto 4, 3) := by decide +kernel
theorem dX2_mayLie_81 : decode cX2_mayLie 81 = .ok (.iconst 0, 1) := by decide +kernel
theorem dX2_mayLie_82 : decode cX2_mayLie 82 = .ok (.ireturn, 1) := by decide +kernel
def sm_X2_mayLie_57  (Q : aw_R) (x0 : Int32) (x1 : Int32) (x2 : Int32) (x3 : Int32) (x5 : Int32) (h : aw_H) : Prop :=
  if 2 < x5 then (tr_X2_areUnlike [.int x0, .int x1, .int x2, .int x3] h fun r2 h1 => sr_I r2 fun v3 => if v3 = 0 then (Q (some (.int 0)) h1) else (Q (some (.int 1)) h1)) else (if ¬ x3 = 0 then (Q (some (.int 0)) h) else (tr_X2_areUnlike [.int x0, .int x1, .int x2, .int x3] h fun r5 h4 => sr_I r5 fun v6 => if v6 = 0 then (Q (some (.int 0)) h4) else (Q (some (.int 1)) h4)))
set_option maxRecDepth 100000 in
set_option maxHeartbeats 4000000 in
theorem bl_X2_mayLie_57 {X : aw_X} {Q : aw_R} (C : aw_C X cX2_mayLie RX2 6 2) (Z : aw_Z X cX2_mayLie (some .boolean) Q) (x0 : Int32) (x1 : Int32) (x2 : Int32) (x3 : Int32) (x5 : Int32) (h : aw_H) (hh : sm_X2_mayLie_57  Q x0 x1 x2 x3 x5 h) : Sat X 57 [.int x0, .int x1, .int x2, .int x3, Value.null, .int x5] [] h := by
  unfold sm_X2_mayLie_57 at hh
  refine ow_iload C dX2_mayLie_57 rfl ?_
  refine ow_iconst (v := 2) C dX2_mayLie_59 rfl ?_
  refine ow_icmp_gt (tgt := 67) C dX2_mayLie_60 (by decide) hh (fun hh => ?_) (fun hh => ?_)
  · skip
    refine ow_iload_n C dX2_mayLie_67 rfl rfl ?_
    refine ow_iload_n C dX2_mayLie_68 rfl rfl ?_
    refine ow_iload_n C dX2_mayLie_69 rfl rfl ?_
    refine ow_iload_n C dX2_mayLie_70 rfl rfl ?_
    refine ow_callS C (cs_X2_areUnlike _) (Nat.le_of_ble_eq_true rfl) kw_44 dX2_mayLie_71 (as := [.int x0, .int x1, .int x2, .int x3]) (st := []) rfl rfl (Nat.le_of_ble_eq_true rfl) hh (fun r2 h1 hq => ?_)
    obtain ⟨v3, rfl, hh⟩ := sr_I_e hq
    show Sat X 74 [.int x0, .int x1, .int x2, .int x3, Value.null, .int x5] [.int v3] h1
    refine ow_if_eq (tgt := 81) C dX2_mayLie_74 (by decide) hh (fun hh => ?_) (fun hh => ?_)
    · skip
      refine ow_iconst (v := 0) C dX2_mayLie_81 rfl ?_
      exact ow_iret Z dX2_mayLie_82 (Or.inl rfl) hh
    · skip
      refine ow_iconst (v := 1) C dX2_mayLie_77 rfl ?_
      refine ow_goto (tgt := 82) C dX2_mayLie_78 (by decide) ?_
      exact ow_iret Z dX2_mayLie_82 (Or.inr rfl) hh
  · skip
    refine ow_iload_n C dX2_mayLie_63 rfl rfl ?_
    refine ow_if_ne (tgt := 81) C dX2_mayLie_64 (by decide) hh (fun hh => ?_) (fun hh => ?_)
    · skip
      refine ow_iconst (v := 0) C dX2_mayLie_81 rfl ?_
      exact ow_iret Z dX2_mayLie_82 (Or.inl rfl) hh
    · skip
      refine ow_iload_n C dX2_mayLie_67 rfl rfl ?_
      refine ow_iload_n C dX2_mayLie_68 rfl rfl ?_
      refine ow_iload_n C dX2_mayLie_69 rfl rfl ?_
      refine ow_iload_n C dX2_mayLie_70 rfl rfl ?_
      refine ow_callS C (cs_X2_areUnlike _) (Nat.le_of_ble_eq_true rfl) kw_44 dX2_mayLie_71 (as := [.int x0, .int x1, .int x2, .int x3]) (st := []) rfl rfl (Nat.le_of_ble_eq_true rfl) hh (fun r5 h4 hq => ?_)
      obtain ⟨v6, rfl, hh⟩ := sr_I_e hq
      show Sat X 74 [.int x0, .int x1, .int x2, .int x3, Value.null, .int x5] [.int v6] h4
      refine ow_if_eq (tgt := 81) C dX2_mayLie_74 (by decide) hh (fun hh => ?_) (fun hh => ?_)
      · skip
        refine ow_iconst (v := 0) C dX2_mayLie_81 rfl ?_
        exact ow_iret Z dX2_mayLie_82 (Or.inl rfl) hh
      · skip
        refine ow_iconst (v := 1) C dX2_mayLie_77 rfl ?_
        refine ow_goto (tgt := 82) C dX2_mayLie_78 (by decide) ?_
        exact ow_iret Z dX2_mayLie_82 (Or.inr rfl) hh
def sm_X2_mayLie_0  (Q : aw_R) (x0 : Int32) (x1 : Int32) (x2 : Int32) (x3 : Int32) (x4 : Int32) (h : aw_H) : Prop :=
  if x0 < 0 then (Q (some (.int 0)) h) else (if 5 ≤ x0 then (Q (some (.int 0)) h) else (if x1 < 0 then (Q (some (.int 0)) h) else (if x2 < 0 then (Q (some (.int 0)) h) else (if x3 < 0 then (Q (some (.int 0)) h) else (if x4 ≤ x1 then (Q (some (.int 0)) h) else (if x4 ≤ x2 then (Q (some (.int 0)) h) else (if x3 < x4 then (tr_X2_wiresOf [.int x0] h fun r2 h1 => sr_I r2 fun v3 => if 1 < v3 then (sm_X2_mayLie_57  Q x0 x1 x2 x3 v3 h1) else (if ¬ x2 = 0 then (Q (some (.int 0)) h1) else (sm_X2_mayLie_57  Q x0 x1 x2 x3 v3 h1))) else (Q (some (.int 0)) h))))))))
set_option maxRecDepth 100000 in
set_option maxHeartbeats 4000000 in
theorem bl_X2_mayLie_0 {X : aw_X} {Q : aw_R} (C : aw_C X cX2_mayLie RX2 6 2) (Z : aw_Z X cX2_mayLie (some .boolean) Q) (x0 : Int32) (x1 : Int32) (x2 : Int32) (x3 : Int32) (x4 : Int32) (h : aw_H) (hh : sm_X2_mayLie_0  Q x0 x1 x2 x3 x4 h) : Sat X 0 [.int x0, .int x1, .int x2, .int x3, .int x4, Value.null] [] h := by
  unfold sm_X2_mayLie_0 at hh
  refine ow_iload_n C dX2_mayLie_0 rfl rfl ?_
  refine ow_if_lt (tgt := 39) C dX2_mayLie_1 (by decide) hh (fun hh => ?_) (fun hh => ?_)
  · skip
    refine ow_iconst (v := 0) C dX2_mayLie_39 rfl ?_
    exact ow_iret Z dX2_mayLie_40 (Or.inl rfl) hh
  · skip
    refine ow_iload_n C dX2_mayLie_4 rfl rfl ?_
    refine ow_iconst (v := 5) C dX2_mayLie_5 rfl ?_
    refine ow_icmp_ge (tgt := 39) C dX2_mayLie_6 (by decide) hh (fun hh => ?_) (fun hh => ?_)
    · skip
      refine ow_iconst (v := 0) C dX2_mayLie_39 rfl ?_
      exact ow_iret Z dX2_mayLie_40 (Or.inl rfl) hh
    · skip
      refine ow_iload_n C dX2_mayLie_9 rfl rfl ?_
      refine ow_if_lt (tgt := 39) C dX2_mayLie_10 (by decide) hh (fun hh => ?_) (fun hh => ?_)
      · skip
        refine ow_iconst (v := 0) C dX2_mayLie_39 rfl ?_
        exact ow_iret Z dX2_mayLie_40 (Or.inl rfl) hh
      · skip
        refine ow_iload_n C dX2_mayLie_13 rfl rfl ?_
        refine ow_if_lt (tgt := 39) C dX2_mayLie_14 (by decide) hh (fun hh => ?_) (fun hh => ?_)
        · skip
          refine ow_iconst (v := 0) C dX2_mayLie_39 rfl ?_
          exact ow_iret Z dX2_mayLie_40 (Or.inl rfl) hh
        · skip
          refine ow_iload_n C dX2_mayLie_17 rfl rfl ?_
          refine ow_if_lt (tgt := 39) C dX2_mayLie_18 (by decide) hh (fun hh => ?_) (fun hh => ?_)
          · skip
            refine ow_iconst (v := 0) C dX2_mayLie_39 rfl ?_
            exact ow_iret Z dX2_mayLie_40 (Or.inl rfl) hh
          · skip
            refine ow_iload_n C dX2_mayLie_21 rfl rfl ?_
            refine ow_iload C dX2_mayLie_22 rfl ?_
            refine ow_icmp_ge (tgt := 39) C dX2_mayLie_24 (by decide) hh (fun hh => ?_) (fun hh => ?_)
            · skip
              refine ow_iconst (v := 0) C dX2_mayLie_39 rfl ?_
              exact ow_iret Z dX2_mayLie_40 (Or.inl rfl) hh
            · skip
              refine ow_iload_n C dX2_mayLie_27 rfl rfl ?_
              refine ow_iload C dX2_mayLie_28 rfl ?_
              refine ow_icmp_ge (tgt := 39) C dX2_mayLie_30 (by decide) hh (fun hh => ?_) (fun hh => ?_)
              · skip
                refine ow_iconst (v := 0) C dX2_mayLie_39 rfl ?_
                exact ow_iret Z dX2_mayLie_40 (Or.inl rfl) hh
              · skip
                refine ow_iload_n C dX2_mayLie_33 rfl rfl ?_
                refine ow_iload C dX2_mayLie_34 rfl ?_
                refine ow_icmp_lt (tgt := 41) C dX2_mayLie_36 (by decide) hh (fun hh => ?_) (fun hh => ?_)
                · skip
                  refine ow_iload_n C dX2_mayLie_41 rfl rfl ?_
                  refine ow_callS C (cs_X2_wiresOf _) (Nat.le_of_ble_eq_true rfl) kw_33 dX2_mayLie_42 (as := [.int x0]) (st := []) rfl rfl (Nat.le_of_ble_eq_true rfl) hh (fun r2 h1 hq => ?_)
                  obtain ⟨v3, rfl, hh⟩ := sr_I_e hq
                  show Sat X 45 [.int x0, .int x1, .int x2, .int x3, .int x4, Value.null] [.int v3] h1
                  refine ow_istore (L' := [.int x0, .int x1, .int x2, .int x3, .int x4, .int v3]) C dX2_mayLie_45 (by decide) rfl ?_
                  refine ow_iload C dX2_mayLie_47 rfl ?_
                  refine ow_iconst (v := 1) C dX2_mayLie_49 rfl ?_
                  refine ow_icmp_gt (tgt := 57) C dX2_mayLie_50 (by decide) hh (fun hh => ?_) (fun hh => ?_)
                  · skip
                    exact Sat.mask (bl_X2_mayLie_57 C Z x0 x1 x2 x3 v3 h1 hh) (mk_y (mk_y (mk_y (mk_y (mk_n (mk_y mk_0))))))
                  · skip
                    refine ow_iload_n C dX2_mayLie_53 rfl rfl ?_
                    refine ow_if_ne (tgt := 81) C dX2_mayLie_54 (by decide) hh (fun hh => ?_) (fun hh => ?_)
                    · skip
                      refine ow_iconst (v := 0) C dX2_mayLie_81 rfl ?_
                      exact ow_iret Z dX2_mayLie_82 (Or.inl rfl) hh
                    · skip
                      exact Sat.mask (bl_X2_mayLie_57 C Z x0 x1 x2 x3 v3 h1 hh) (mk_y (mk_y (mk_y (mk_y (mk_n (mk_y mk_0))))))
                · skip
                  refine ow_iconst (v := 0) C dX2_mayLie_39 rfl ?_
                  exact ow_iret Z dX2_mayLie_40 (Or.inl rfl) hh
def tr_X2_mayLie : aw_T := fun as h Q => ∃ (x0 : Int32) (x1 : Int32) (x2 : Int32) (x3 : Int32) (x4 : Int32), as = [.int x0, .int x1, .int x2, .int x3, .int x4] ∧ (sm_X2_mayLie_0  Q x0 x1 x2 x3 x4 h)
theorem tq_X2_mayLie {x0 : Int32} {x1 : Int32} {x2 : Int32} {x3 : Int32} {x4 : Int32} {h : aw_H} {Q : aw_R} : tr_X2_mayLie [.int x0, .int x1, .int x2, .int x3, .int x4] h Q ↔ (sm_X2_mayLie_0  Q x0 x1 x2 x3 x4 h) := by
  constructor
  · rintro ⟨_, _, _, _, _, as0, hh⟩
    cases as0
    exact hh
  · intro hh
    exact ⟨_, _, _, _, _, rfl, hh⟩
theorem ct_X2_mayLie (E : aw_F) : CT E yX2_mayLie cX2_mayLie 6 (some .boolean) 2 tr_X2_mayLie := by
  refine ct_of (by decide) ?_
  intro X Q as h hE C Z hG
  subst hE
  obtain ⟨x0, x1, x2, x3, x4, rfl, hh⟩ := hG
  refine ⟨[.int x0, .int x1, .int x2, .int x3, .int x4, Value.null], rfl, Nat.le_of_ble_eq_true rfl, ?_⟩
  exact bl_X2_mayLie_0 C Z x0 x1 x2 x3 x4 h hh
theorem cs_X2_mayLie (E : aw_F) : CS E yX2_mayLie cX2_mayLie 6 (some .boolean) 2 5 tr_X2_mayLie := ⟨ct_X2_mayLie E, by decide, kw_46, kw_12, kw_45, by decide +kernel⟩
