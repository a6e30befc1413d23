theorem dX4_begin_0 : decode cX4_begin 0 = .ok (.aload_n 0, 1) := by decide +kernel
theorem dX4_begin_1 : decode cX4_begin 1 = .ok (.iconst 1, 1) := by decide +kernel
theorem dX4_begin_2 : decode cX4_begin 2 = .ok (.putfield 15, 3) := by decide +kernel
theorem dX4_begin_5 : decode cX4_begin 5 = .ok (.aload_n 0, 1) := by decide +kernel
theorem dX4_begin_6 : decode cX4_begin 6 = .ok (.iload_n 1, 1) := by decide +kernel
theorem dX4_begin_7 : decode cX4_begin 7 = .ok (.putfield 19, 3) := by decide +kernel
theorem dX4_begin_10 : decode cX4_begin 10 = .ok (.aload_n 0, 1) := by decide +kernel
theorem dX4_begin_11 : decode cX4_begin 11 = .ok (.iload_n 2, 1) := by decide +kernel
theorem dX4_begin_12 : decode cX4_begin 12 = .ok (.putfield 23, 3) := by decide +kernel
theorem dX4_begin_15 : decode cX4_begin 15 = .ok (.aload_n 0, 1) := by decide +kernel
theorem dX4_begin_16 : decode cX4_begin 16 = .ok (.getfield 9, 3) := by decide +kernel
theorem dX4_begin_19 : decode cX4_begin 19 = .ok (.lconst 0, 1) := by decide +kernel
theorem dX4_begin_20 : decode cX4_begin 20 = .ok (.invokestatic 26, 3) := by decide +kernel
theorem dX4_begin_23 : decode cX4_begin 23 = .ok (.return_, 1) := by decide +kernel
def sm_X4_begin_0  (Q : aw_R) (p0 : Nat) (x1 : Int32) (x2 : Int32) (h : aw_H) : Prop :=
  sp_I h p0 3 0 1 fun h1 => sp_I h1 p0 3 1 x1 fun h2 => sp_I h2 p0 3 2 x2 fun h3 => sg_R h3 p0 3 3 fun q4 => tr_J7_fill_d0a16 [.ref q4, .long 0] h3 fun r6 h5 => sr_V r6 <| Q none h5
set_option maxRecDepth 100000 in
set_option maxHeartbeats 4000000 in
theorem bl_X4_begin_0 {X : aw_X} {Q : aw_R} (C : aw_C X cX4_begin RX4 3 1) (Z : aw_Z X cX4_begin none Q) (p0 : Nat) (x1 : Int32) (x2 : Int32) (h : aw_H) (hh : sm_X4_begin_0  Q p0 x1 x2 h) : Sat X 0 [.ref p0, .int x1, .int x2] [] h := by
  unfold sm_X4_begin_0 at hh
  refine ow_aload_n C dX4_begin_0 rfl rfl ?_
  refine ow_iconst (v := 1) C dX4_begin_1 rfl ?_
  refine ow_putZ (ci := 3) (k := 0) (T := TX4) C rfl igX4 tyX4 tyX4_ok nmX4 (by decide) kw_102 rfl (by decide +kernel) (Or.inr rfl) dX4_begin_2 hh (fun h1 hh => ?_)
  refine ow_aload_n C dX4_begin_5 rfl rfl ?_
  refine ow_iload_n C dX4_begin_6 rfl rfl ?_
  refine ow_putI (ci := 3) (k := 1) (T := TX4) C rfl igX4 tyX4 tyX4_ok nmX4 (by decide) kw_103 rfl (by decide +kernel) dX4_begin_7 hh (fun h2 hh => ?_)
  refine ow_aload_n C dX4_begin_10 rfl rfl ?_
  refine ow_iload_n C dX4_begin_11 rfl rfl ?_
  refine ow_putI (ci := 3) (k := 2) (T := TX4) C rfl igX4 tyX4 tyX4_ok nmX4 (by decide) kw_104 rfl (by decide +kernel) dX4_begin_12 hh (fun h3 hh => ?_)
  refine ow_aload_n C dX4_begin_15 rfl rfl ?_
  refine ow_getR (ci := 3) (k := 3) (T := TX4) C rfl igX4 (by decide) kw_105 dX4_begin_16 hh (fun q4 hh => ?_)
  refine ow_lconst (v := 0) C dX4_begin_19 rfl ?_
  refine ow_callS C (cs_J7_fill_d0a16 _) (Nat.le_of_ble_eq_true rfl) kw_106 dX4_begin_20 (as := [.ref q4, .long 0]) (st := []) rfl rfl (Nat.le_of_ble_eq_true rfl) hh (fun r6 h5 hq => ?_)
  obtain ⟨rfl, hh⟩ := sr_V_e hq
  show Sat X 23 [.ref p0, .int x1, .int x2] [] h5
  exact ow_vret Z dX4_begin_23 trivial hh
def tr_X4_begin : aw_T := fun as h Q => ∃ (p0 : Nat) (x1 : Int32) (x2 : Int32), as = [.ref p0, .int x1, .int x2] ∧ (sm_X4_begin_0  Q p0 x1 x2 h)
theorem tq_X4_begin {p0 : Nat} {x1 : Int32} {x2 : Int32} {h : aw_H} {Q : aw_R} : tr_X4_begin [.ref p0, .int x1, .int x2] h Q ↔ (sm_X4_begin_0  Q p0 x1 x2 h) := by
  constructor
  · rintro ⟨_, _, _, as0, hh⟩
    cases as0
    exact hh
  · intro hh
    exact ⟨_, _, _, rfl, hh⟩
theorem ct_X4_begin (E : aw_F) : CT E yX4_begin cX4_begin 3 none 1 tr_X4_begin := by
  refine ct_of (by decide) ?_
  intro X Q as h hE C Z hG
  subst hE
  obtain ⟨p0, x1, x2, rfl, hh⟩ := hG
  refine ⟨[.ref p0, .int x1, .int x2], rfl, Nat.le_of_ble_eq_true rfl, ?_⟩
  exact bl_X4_begin_0 C Z p0 x1 x2 h hh
theorem cv_X4_begin (E : aw_F) : CV E yX4_begin cX4_begin 3 none 1 2 3 tr_X4_begin := ⟨ct_X4_begin E, by decide, kw_109, kw_110, kw_108, kw_107, by decide +kernel, _, _, rfl⟩
theorem dX4_spans_0 : decode cX4_spans 0 = .ok (.iload_n 1, 1) := by decide +kernel
theorem dX4_spans_1 : decode cX4_spans 1 = .ok (.ifCond .lt 21, 3) := by decide +kernel
theorem dX4_spans_4 : decode cX4_spans 4 = .ok (.iload_n 2, 1) := by decide +kernel
theorem dX4_spans_5 : decode cX4_spans 5 = .ok (.ifCond .lt 17, 3) := by decide +kernel
theorem dX4_spans_8 : decode cX4_spans 8 = .ok (.iload_n 1, 1) := by decide +kernel
theorem dX4_spans_9 : decode cX4_spans 9 = .ok (.aload_n 0, 1) := by decide +kernel
theorem dX4_spans_10 : decode cX4_spans 10 = .ok (.getfield 23, 3) := by decide +kernel
theorem dX4_spans_13 : decode cX4_spans 13 = .ok (.iload_n 2, 1) := by decide +kernel
theorem dX4_spans_14 : decode cX4_spans 14 = .ok (.isub, 1) := by decide +kernel
theorem dX4_spans_15 : decode cX4_spans 15 = .ok (.if_icmp .gt 7, 3) := by decide +kernel
theorem dX4_spans_18 : decode cX4_spans 18 = .ok (.iconst 1, 1) := by decide +kernel
theorem dX4_spans_19 : decode cX4_spans 19 = .ok (.goto 4, 3) := by decide +kernel
theorem dX4_spans_22 : decode cX4_spans 22 = .ok (.iconst 0, 1) := by decide +kernel
theorem dX4_spans_23 : decode cX4_spans 23 = .ok (.ireturn, 1) := by decide +kernel
def sm_X4_spans_0  (Q : aw_R) (p0 : Nat) (x1 : Int32) (x2 : Int32) (h : aw_H) : Prop :=
  if x1 < 0 then (Q (some (.int 0)) h) else (if x2 < 0 then (Q (some (.int 0)) h) else (sg_I h p0 3 2 fun v1 => if (v1 - x2) < x1 then (Q (some (.int 0)) h) else (Q (some (.int 1)) h)))
set_option maxRecDepth 100000 in
set_option maxHeartbeats 4000000 in
theorem bl_X4_spans_0 {X : aw_X} {Q : aw_R} (C : aw_C X cX4_spans RX4 3 0) (Z : aw_Z X cX4_spans (some .boolean) Q) (p0 : Nat) (x1 : Int32) (x2 : Int32) (h : aw_H) (hh : sm_X4_spans_0  Q p0 x1 x2 h) : Sat X 0 [.ref p0, .int x1, .int x2] [] h := by
  unfold sm_X4_spans_0 at hh
  refine ow_iload_n C dX4_spans_0 rfl rfl ?_
  refine ow_if_lt (tgt := 22) C dX4_spans_1 (by decide) hh (fun hh => ?_) (fun hh => ?_)
  · skip
    refine ow_iconst (v := 0) C dX4_spans_22 rfl ?_
    exact ow_iret Z dX4_spans_23 (Or.inl rfl) hh
  · skip
    refine ow_iload_n C dX4_spans_4 rfl rfl ?_
    refine ow_if_lt (tgt := 22) C dX4_spans_5 (by decide) hh (fun hh => ?_) (fun hh => ?_)
    · skip
      refine ow_iconst (v := 0) C dX4_spans_22 rfl ?_
      exact ow_iret Z dX4_spans_23 (Or.inl rfl) hh
    · skip
      refine ow_iload_n C dX4_spans_8 rfl rfl ?_
      refine ow_aload_n C dX4_spans_9 rfl rfl ?_
      refine ow_getI (ci := 3) (k := 2) (T := TX4) C rfl igX4 (by decide) kw_104 dX4_spans_10 hh (fun v1 hh => ?_)
      refine ow_iload_n C dX4_spans_13 rfl rfl ?_
      refine ow_isub C dX4_spans_14 ?_
      refine ow_icmp_gt (tgt := 22) C dX4_spans_15 (by decide) hh (fun hh => ?_) (fun hh => ?_)
      · skip
        refine ow_iconst (v := 0) C dX4_spans_22 rfl ?_
        exact ow_iret Z dX4_spans_23 (Or.inl rfl) hh
      · skip
        refine ow_iconst (v := 1) C dX4_spans_18 rfl ?_
        refine ow_goto (tgt := 23) C dX4_spans_19 (by decide) ?_
        exact ow_iret Z dX4_spans_23 (Or.inr rfl) hh
def tr_X4_spans : aw_T := fun as h Q => ∃ (p0 : Nat) (x1 : Int32) (x2 : Int32), as = [.ref p0, .int x1, .int x2] ∧ (sm_X4_spans_0  Q p0 x1 x2 h)
theorem tq_X4_spans {p0 : Nat} {x1 : Int32} {x2 : Int32} {h : aw_H} {Q : aw_R} : tr_X4_spans [.ref p0, .int x1, .int x2] h Q ↔ (sm_X4_spans_0  Q p0 x1 x2 h) := by
  constructor
  · rintro ⟨_, _, _, as0, hh⟩
    cases as0
    exact hh
  · intro hh
    exact ⟨_, _, _, rfl, hh⟩
theorem ct_X4_spans (E : aw_F) : CT E yX4_spans cX4_spans 3 (some .boolean) 0 tr_X4_spans := by
  refine ct_of (by decide) ?_
  intro X Q as h hE C Z hG
  subst hE
  obtain ⟨p0, x1, x2, rfl, hh⟩ := hG
  refine ⟨[.ref p0, .int x1, .int x2], rfl, Nat.le_of_ble_eq_true rfl, ?_⟩
  exact bl_X4_spans_0 C Z p0 x1 x2 h hh
theorem cv_X4_spans (E : aw_F) : CV E yX4_spans cX4_spans 3 (some .boolean) 0 2 3 tr_X4_spans := ⟨ct_X4_spans E, by decide, kw_112, kw_113, kw_108, kw_111, by decide +kernel, _, _, rfl⟩
theorem dX4_faultOf_0 : decode cX4_faultOf 0 = .ok (.aload_n 0, 1) := by decide +kernel
theorem dX4_faultOf_1 : decode cX4_faultOf 1 = .ok (.getfield 15, 3) := by decide +kernel
theorem dX4_faultOf_4 : decode cX4_faultOf 4 = .ok (.ifCond .ne 6, 3) := by decide +kernel
theorem dX4_faultOf_7 : decode cX4_faultOf 7 = .ok (.bipush (-11), 2) := by decide +kernel
theorem dX4_faultOf_9 : decode cX4_faultOf 9 = .ok (.ireturn, 1) := by decide +kernel
theorem dX4_faultOf_10 : decode cX4_faultOf 10 = .ok (.aload_n 0, 1) := by decide +kernel
theorem dX4_faultOf_11 : decode cX4_faultOf 11 = .ok (.getfield 19, 3) := by decide +kernel
theorem dX4_faultOf_14 : decode cX4_faultOf 14 = .ok (.iload_n 1, 1) := by decide +kernel
theorem dX4_faultOf_15 : decode cX4_faultOf 15 = .ok (.if_icmp .eq 6, 3) := by decide +kernel
theorem dX4_faultOf_18 : decode cX4_faultOf 18 = .ok (.bipush (-12), 2) := by decide +kernel
theorem dX4_faultOf_20 : decode cX4_faultOf 20 = .ok (.ireturn, 1) := by decide +kernel
theorem dX4_faultOf_21 : decode cX4_faultOf 21 = .ok (.aload_n 0, 1) := by decide +kernel
theorem dX4_faultOf_22 : decode cX4_faultOf 22 = .ok (.iload_n 2, 1) := by decide +kernel
theorem dX4_faultOf_23 : decode cX4_faultOf 23 = .ok (.iload_n 3, 1) := by decide +kernel
theorem dX4_faultOf_24 : decode cX4_faultOf 24 = .ok (.invokevirtual 32, 3) := by decide +kernel
theorem dX4_faultOf_27 : decode cX4_faultOf 27 = .ok (.ifCond .eq 7, 3) := by decide +kernel
theorem dX4_faultOf_30 : decode cX4_faultOf 30 = .ok (.iconst 0, 1) := by decide +kernel
theorem dX4_faultOf_31 : decode cX4_faultOf 31 = .ok (.goto 5, 3) := by decide +kernel
theorem dX4_faultOf_34 : decode cX4_faultOf 34 = .ok (.bipush (-13), 2) := by decide +kernel
theorem dX4_faultOf_36 : decode cX4_faultOf 36 = .ok (.ireturn, 1) := by decide +kernel
def sm_X4_faultOf_0  (Q : aw_R) (p0 : Nat) (x1 : Int32) (x2 : Int32) (x3 : Int32) (h : aw_H) : Prop :=
  sg_I h p0 3 0 fun v1 => if ¬ v1 = 0 then (sg_I h p0 3 1 fun v2 => if v2 = x1 then (sv_O h p0 3 (tr_X4_spans [.ref p0, .int x2, .int x3] h fun r4 h3 => sr_I r4 fun v5 => if v5 = 0 then (Q (some (.int ((-13)))) h3) else (Q (some (.int 0)) h3))) else (Q (some (.int ((-12)))) h)) else (Q (some (.int ((-11)))) h)
set_option maxRecDepth 100000 in
set_option maxHeartbeats 4000000 in
theorem bl_X4_faultOf_0 {X : aw_X} {Q : aw_R} (C : aw_C X cX4_faultOf RX4 4 1) (Z : aw_Z X cX4_faultOf (some .int) Q) (p0 : Nat) (x1 : Int32) (x2 : Int32) (x3 : Int32) (h : aw_H) (hh : sm_X4_faultOf_0  Q p0 x1 x2 x3 h) : Sat X 0 [.ref p0, .int x1, .int x2, .int x3] [] h := by
  unfold sm_X4_faultOf_0 at hh
  refine ow_aload_n C dX4_faultOf_0 rfl rfl ?_
  refine ow_getI (ci := 3) (k := 0) (T := TX4) C rfl igX4 (by decide) kw_102 dX4_faultOf_1 hh (fun v1 hh => ?_)
  refine ow_if_ne (tgt := 10) C dX4_faultOf_4 (by decide) hh (fun hh => ?_) (fun hh => ?_)
  · skip
    refine ow_aload_n C dX4_faultOf_10 rfl rfl ?_
    refine ow_getI (ci := 3) (k := 1) (T := TX4) C rfl igX4 (by decide) kw_103 dX4_faultOf_11 hh (fun v2 hh => ?_)
    refine ow_iload_n C dX4_faultOf_14 rfl rfl ?_
    refine ow_icmp_eq (tgt := 21) C dX4_faultOf_15 (by decide) hh (fun hh => ?_) (fun hh => ?_)
    · skip
      refine ow_aload_n C dX4_faultOf_21 rfl rfl ?_
      refine ow_iload_n C dX4_faultOf_22 rfl rfl ?_
      refine ow_iload_n C dX4_faultOf_23 rfl rfl ?_
      refine ow_callV C (cv_X4_spans _) (Nat.le_of_ble_eq_true rfl) kw_114 dX4_faultOf_24 (as := [.int x2, .int x3]) (st := []) rfl rfl (Nat.le_of_ble_eq_true rfl) hh (fun r4 h3 hq => ?_)
      obtain ⟨v5, rfl, hh⟩ := sr_I_e hq
      show Sat X 27 [.ref p0, .int x1, .int x2, .int x3] [.int v5] h3
      refine ow_if_eq (tgt := 34) C dX4_faultOf_27 (by decide) hh (fun hh => ?_) (fun hh => ?_)
      · skip
        refine ow_bipush (v := (-13)) C dX4_faultOf_34 rfl ?_
        exact ow_iret Z dX4_faultOf_36 trivial hh
      · skip
        refine ow_iconst (v := 0) C dX4_faultOf_30 rfl ?_
        refine ow_goto (tgt := 36) C dX4_faultOf_31 (by decide) ?_
        exact ow_iret Z dX4_faultOf_36 trivial hh
    · skip
      refine ow_bipush (v := (-12)) C dX4_faultOf_18 rfl ?_
      exact ow_iret Z dX4_faultOf_20 trivial hh
  · skip
    refine ow_bipush (v := (-11)) C dX4_faultOf_7 rfl ?_
    exact ow_iret Z dX4_faultOf_9 trivial hh
def tr_X4_faultOf : aw_T := fun as h Q => ∃ (p0 : Nat) (x1 : Int32) (x2 : Int32) (x3 : Int32), as = [.ref p0, .int x1, .int x2, .int x3] ∧ (sm_X4_faultOf_0  Q p0 x1 x2 x3 h)
theorem tq_X4_faultOf {p0 : Nat} {x1 : Int32} {x2 : Int32} {x3 : Int32} {h : aw_H} {Q : aw_R} : tr_X4_faultOf [.ref p0, .int x1, .int x2, .int x3] h Q ↔ (sm_X4_faultOf_0  Q p0 x1 x2 x3 h) := by
  constructor
  · rintro ⟨_, _, _, _, as0, hh⟩
    cases as0
    exact hh
  · intro hh
    exact ⟨_, _, _, _, rfl, hh⟩
theorem ct_X4_faultOf (E : aw_F) : CT E yX4_faultOf cX4_faultOf 4 (some .int) 1 tr_X4_faultOf := by
  refine ct_of (by decide) ?_
  intro X Q as h hE C Z hG
  subst hE
  obtain ⟨p0, x1, x2, x3, rfl, hh⟩ := hG
  refine ⟨[.ref p0, .int x1, .int x2, .int x3], rfl, Nat.le_of_ble_eq_true rfl, ?_⟩
  exact bl_X4_faultOf_0 C Z p0 x1 x2 x3 h hh
theorem cv_X4_faultOf (E : aw_F) : CV E yX4_faultOf cX4_faultOf 4 (some .int) 1 3 3 tr_X4_faultOf := ⟨ct_X4_faultOf E, by decide, kw_116, kw_117, kw_108, kw_115, by decide +kernel, _, _, rfl⟩
theorem dX4_cut_0 : decode cX4_cut 0 = .ok (.aload_n 0, 1) := by decide +kernel
theorem dX4_cut_1 : decode cX4_cut 1 = .ok (.getfield 19, 3) := by decide +kernel
theorem dX4_cut_4 : decode cX4_cut 4 = .ok (.tableswitch 42 0 2 #[28, 33, 38], 28) := by decide +kernel
theorem dX4_cut_32 : decode cX4_cut 32 = .ok (.lload_n 1, 1) := by decide +kernel
theorem dX4_cut_33 : decode cX4_cut 33 = .ok (.l2i, 1) := by decide +kernel
theorem dX4_cut_34 : decode cX4_cut 34 = .ok (.i2b, 1) := by decide +kernel
theorem dX4_cut_35 : decode cX4_cut 35 = .ok (.i2l, 1) := by decide +kernel
theorem dX4_cut_36 : decode cX4_cut 36 = .ok (.lreturn, 1) := by decide +kernel
theorem dX4_cut_37 : decode cX4_cut 37 = .ok (.lload_n 1, 1) := by decide +kernel
theorem dX4_cut_38 : decode cX4_cut 38 = .ok (.l2i, 1) := by decide +kernel
theorem dX4_cut_39 : decode cX4_cut 39 = .ok (.i2s, 1) := by decide +kernel
theorem dX4_cut_40 : decode cX4_cut 40 = .ok (.i2l, 1) := by decide +kernel
theorem dX4_cut_41 : decode cX4_cut 41 = .ok (.lreturn, 1) := by decide +kernel
theorem dX4_cut_42 : decode cX4_cut 42 = .ok (.lload_n 1, 1) := by decide +kernel
theorem dX4_cut_43 : decode cX4_cut 43 = .ok (.l2i, 1) := by decide +kernel
theorem dX4_cut_44 : decode cX4_cut 44 = .ok (.i2l, 1) := by decide +kernel
theorem dX4_cut_45 : decode cX4_cut 45 = .ok (.lreturn, 1) := by decide +kernel
theorem dX4_cut_46 : decode cX4_cut 46 = .ok (.lload_n 1, 1) := by decide +kernel
theorem dX4_cut_47 : decode cX4_cut 47 = .ok (.lreturn, 1) := by decide +kernel
def sm_X4_cut_0  (Q : aw_R) (p0 : Nat) (w1 : Int64) (h : aw_H) : Prop :=
  sg_I h p0 3 1 fun v1 => if v1 = 0 then (Q (some (.long (Int32.toInt64 ((Int32.toInt8 (Int64.toInt32 w1)).toInt32)))) h) else if v1 = 1 then (Q (some (.long (Int32.toInt64 ((Int32.toInt16 (Int64.toInt32 w1)).toInt32)))) h) else if v1 = 2 then (Q (some (.long (Int32.toInt64 (Int64.toInt32 w1)))) h) else (Q (some (.long w1)) h)
set_option maxRecDepth 100000 in
set_option maxHeartbeats 4000000 in
theorem bl_X4_cut_0 {X : aw_X} {Q : aw_R} (C : aw_C X cX4_cut RX4 3 0) (Z : aw_Z X cX4_cut (some .long) Q) (p0 : Nat) (w1 : Int64) (h : aw_H) (hh : sm_X4_cut_0  Q p0 w1 h) : Sat X 0 [.ref p0, .long w1, Value.null] [] h := by
  unfold sm_X4_cut_0 at hh
  refine ow_aload_n C dX4_cut_0 rfl rfl ?_
  refine ow_getI (ci := 3) (k := 1) (T := TX4) C rfl igX4 (by decide) kw_103 dX4_cut_1 hh (fun v1 hh => ?_)
  rcases if_e hh with ⟨hc0, hh⟩ | ⟨hc0, hh⟩
  · refine ow_tableIn (tgt := 32) (v := 0) C dX4_cut_4 hc0 (by decide) (by decide) rfl (by decide) ?_
    refine ow_lload_n C dX4_cut_32 rfl rfl ?_
    refine ow_l2i C dX4_cut_33 ?_
    refine ow_i2b C dX4_cut_34 ?_
    refine ow_i2l C dX4_cut_35 ?_
    exact ow_lret Z dX4_cut_36 trivial hh
  rcases if_e hh with ⟨hc1, hh⟩ | ⟨hc1, hh⟩
  · refine ow_tableIn (tgt := 37) (v := 1) C dX4_cut_4 hc1 (by decide) (by decide) rfl (by decide) ?_
    refine ow_lload_n C dX4_cut_37 rfl rfl ?_
    refine ow_l2i C dX4_cut_38 ?_
    refine ow_i2s C dX4_cut_39 ?_
    refine ow_i2l C dX4_cut_40 ?_
    exact ow_lret Z dX4_cut_41 trivial hh
  rcases if_e hh with ⟨hc2, hh⟩ | ⟨hc2, hh⟩
  · refine ow_tableIn (tgt := 42) (v := 2) C dX4_cut_4 hc2 (by decide) (by decide) rfl (by decide) ?_
    refine ow_lload_n C dX4_cut_42 rfl rfl ?_
    refine ow_l2i C dX4_cut_43 ?_
    refine ow_i2l C dX4_cut_44 ?_
    exact ow_lret Z dX4_cut_45 trivial hh
  refine ow_tableOut (tgt := 46) C dX4_cut_4 (by have := lv_neT hc0 (a := 0) rfl; have := lv_neT hc1 (a := 1) rfl; have := lv_neT hc2 (a := 2) rfl; omega) (by decide) ?_
  refine ow_lload_n C dX4_cut_46 rfl rfl ?_
  exact ow_lret Z dX4_cut_47 trivial hh
def tr_X4_cut : aw_T := fun as h Q => ∃ (p0 : Nat) (w1 : Int64), as = [.ref p0, .long w1] ∧ (sm_X4_cut_0  Q p0 w1 h)
theorem tq_X4_cut {p0 : Nat} {w1 : Int64} {h : aw_H} {Q : aw_R} : tr_X4_cut [.ref p0, .long w1] h Q ↔ (sm_X4_cut_0  Q p0 w1 h) := by
  constructor
  · rintro ⟨_, _, as0, hh⟩
    cases as0
    exact hh
  · intro hh
    exact ⟨_, _, rfl, hh⟩
theorem ct_X4_cut (E : aw_F) : CT E yX4_cut cX4_cut 3 (some .long) 0 tr_X4_cut := by
  refine ct_of (by decide) ?_
  intro X Q as h hE C Z hG
  subst hE
  obtain ⟨p0, w1, rfl, hh⟩ := hG
  refine ⟨[.ref p0, .long w1, Value.null], rfl, Nat.le_of_ble_eq_true rfl, ?_⟩
  exact bl_X4_cut_0 C Z p0 w1 h hh
theorem cv_X4_cut (E : aw_F) : CV E yX4_cut cX4_cut 3 (some .long) 0 1 3 tr_X4_cut := ⟨ct_X4_cut E, by decide, kw_119, kw_120, kw_108, kw_118, by decide +kernel, _, _, rfl⟩
theorem dX4_put_0 : decode cX4_put 0 = .ok (.iload_n 1, 1) := by decide +kernel
theorem dX4_put_1 : decode cX4_put 1 = .ok (.ifCond .lt 22, 3) := by decide +kernel
theorem dX4_put_4 : decode cX4_put 4 = .ok (.iload_n 1, 1) := by decide +kernel
theorem dX4_put_5 : decode cX4_put 5 = .ok (.aload_n 0, 1) := by decide +kernel
theorem dX4_put_6 : decode cX4_put 6 = .ok (.getfield 23, 3) := by decide +kernel
theorem dX4_put_9 : decode cX4_put 9 = .ok (.if_icmp .ge 14, 3) := by decide +kernel
theorem dX4_put_12 : decode cX4_put 12 = .ok (.aload_n 0, 1) := by decide +kernel
theorem dX4_put_13 : decode cX4_put 13 = .ok (.getfield 9, 3) := by decide +kernel
theorem dX4_put_16 : decode cX4_put 16 = .ok (.iload_n 1, 1) := by decide +kernel
theorem dX4_put_17 : decode cX4_put 17 = .ok (.aload_n 0, 1) := by decide +kernel
theorem dX4_put_18 : decode cX4_put 18 = .ok (.lload_n 2, 1) := by decide +kernel
theorem dX4_put_19 : decode cX4_put 19 = .ok (.invokevirtual 36, 3) := by decide +kernel
theorem dX4_put_22 : decode cX4_put 22 = .ok (.lastore, 1) := by decide +kernel
theorem dX4_put_23 : decode cX4_put 23 = .ok (.return_, 1) := by decide +kernel
def sm_X4_put_0  (Q : aw_R) (p0 : Nat) (x1 : Int32) (w2 : Int64) (h : aw_H) : Prop :=
  if x1 < 0 then (Q none h) else (sg_I h p0 3 2 fun v1 => if v1 ≤ x1 then (Q none h) else (sg_R h p0 3 3 fun q2 => sv_O h p0 3 (tr_X4_cut [.ref p0, .long w2] h fun r4 h3 => sr_L r4 fun u5 => ss_L h3 q2 x1 u5 fun h6 => Q none h6)))
set_option maxRecDepth 100000 in
set_option maxHeartbeats 4000000 in
theorem bl_X4_put_0 {X : aw_X} {Q : aw_R} (C : aw_C X cX4_put RX4 4 1) (Z : aw_Z X cX4_put none Q) (p0 : Nat) (x1 : Int32) (w2 : Int64) (h : aw_H) (hh : sm_X4_put_0  Q p0 x1 w2 h) : Sat X 0 [.ref p0, .int x1, .long w2, Value.null] [] h := by
  unfold sm_X4_put_0 at hh
  refine ow_iload_n C dX4_put_0 rfl rfl ?_
  refine ow_if_lt (tgt := 23) C dX4_put_1 (by decide) hh (fun hh => ?_) (fun hh => ?_)
  · skip
    exact ow_vret Z dX4_put_23 trivial hh
  · skip
    refine ow_iload_n C dX4_put_4 rfl rfl ?_
    refine ow_aload_n C dX4_put_5 rfl rfl ?_
    refine ow_getI (ci := 3) (k := 2) (T := TX4) C rfl igX4 (by decide) kw_104 dX4_put_6 hh (fun v1 hh => ?_)
    refine ow_icmp_ge (tgt := 23) C dX4_put_9 (by decide) hh (fun hh => ?_) (fun hh => ?_)
    · skip
      exact ow_vret Z dX4_put_23 trivial hh
    · skip
      refine ow_aload_n C dX4_put_12 rfl rfl ?_
      refine ow_getR (ci := 3) (k := 3) (T := TX4) C rfl igX4 (by decide) kw_105 dX4_put_13 hh (fun q2 hh => ?_)
      refine ow_iload_n C dX4_put_16 rfl rfl ?_
      refine ow_aload_n C dX4_put_17 rfl rfl ?_
      refine ow_lload_n C dX4_put_18 rfl rfl ?_
      refine ow_callV C (cv_X4_cut _) (Nat.le_of_ble_eq_true rfl) kw_121 dX4_put_19 (as := [.long w2]) (st := [.int x1, .ref q2]) rfl rfl (Nat.le_of_ble_eq_true rfl) hh (fun r4 h3 hq => ?_)
      obtain ⟨u5, rfl, hh⟩ := sr_L_e hq
      show Sat X 22 [.ref p0, .int x1, .long w2, Value.null] [.long u5, .int x1, .ref q2] h3
      refine ow_lastore C dX4_put_22 hh (fun h6 hh => ?_)
      exact ow_vret Z dX4_put_23 trivial hh
def tr_X4_put : aw_T := fun as h Q => ∃ (p0 : Nat) (x1 : Int32) (w2 : Int64), as = [.ref p0, .int x1, .long w2] ∧ (sm_X4_put_0  Q p0 x1 w2 h)
theorem tq_X4_put {p0 : Nat} {x1 : Int32} {w2 : Int64} {h : aw_H} {Q : aw_R} : tr_X4_put [.ref p0, .int x1, .long w2] h Q ↔ (sm_X4_put_0  Q p0 x1 w2 h) := by
  constructor
  · rintro ⟨_, _, _, as0, hh⟩
    cases as0
    exact hh
  · intro hh
    exact ⟨_, _, _, rfl, hh⟩
theorem ct_X4_put (E : aw_F) : CT E yX4_put cX4_put 4 none 1 tr_X4_put := by
  refine ct_of (by decide) ?_
  intro X Q as h hE C Z hG
  subst hE
  obtain ⟨p0, x1, w2, rfl, hh⟩ := hG
  refine ⟨[.ref p0, .int x1, .long w2, Value.null], rfl, Nat.le_of_ble_eq_true rfl, ?_⟩
  exact bl_X4_put_0 C Z p0 x1 w2 h hh
theorem cv_X4_put (E : aw_F) : CV E yX4_put cX4_put 4 none 1 2 3 tr_X4_put := ⟨ct_X4_put E, by decide, kw_123, kw_124, kw_108, kw_122, by decide +kernel, _, _, rfl⟩
