theorem dX3_keep_0 : decode cX3_keep 0 = .ok (.aload_n 0, 1) := by decide +kernel
theorem dX3_keep_1 : decode cX3_keep 1 = .ok (.getfield 11, 3) := by decide +kernel
theorem dX3_keep_4 : decode cX3_keep 4 = .ok (.aload_n 0, 1) := by decide +kernel
theorem dX3_keep_5 : decode cX3_keep 5 = .ok (.getfield 18, 3) := by decide +kernel
theorem dX3_keep_8 : decode cX3_keep 8 = .ok (.aaload, 1) := by decide +kernel
theorem dX3_keep_9 : decode cX3_keep 9 = .ok (.aload_n 1, 1) := by decide +kernel
theorem dX3_keep_10 : decode cX3_keep 10 = .ok (.invokevirtual 22, 3) := by decide +kernel
theorem dX3_keep_13 : decode cX3_keep 13 = .ok (.aload_n 0, 1) := by decide +kernel
theorem dX3_keep_14 : decode cX3_keep 14 = .ok (.aload_n 0, 1) := by decide +kernel
theorem dX3_keep_15 : decode cX3_keep 15 = .ok (.getfield 18, 3) := by decide +kernel
theorem dX3_keep_18 : decode cX3_keep 18 = .ok (.iconst 1, 1) := by decide +kernel
theorem dX3_keep_19 : decode cX3_keep 19 = .ok (.iadd, 1) := by decide +kernel
theorem dX3_keep_20 : decode cX3_keep 20 = .ok (.bipush 8, 2) := by decide +kernel
theorem dX3_keep_22 : decode cX3_keep 22 = .ok (.if_icmp .ge 12, 3) := by decide +kernel
theorem dX3_keep_25 : decode cX3_keep 25 = .ok (.aload_n 0, 1) := by decide +kernel
theorem dX3_keep_26 : decode cX3_keep 26 = .ok (.getfield 18, 3) := by decide +kernel
theorem dX3_keep_29 : decode cX3_keep 29 = .ok (.iconst 1, 1) := by decide +kernel
theorem dX3_keep_30 : decode cX3_keep 30 = .ok (.iadd, 1) := by decide +kernel
theorem dX3_keep_31 : decode cX3_keep 31 = .ok (.goto 4, 3) := by decide +kernel
theorem dX3_keep_34 : decode cX3_keep 34 = .ok (.iconst 0, 1) := by decide +kernel
theorem dX3_keep_35 : decode cX3_keep 35 = .ok (.putfield 18, 3) := by decide +kernel
theorem dX3_keep_38 : decode cX3_keep 38 = .ok (.aload_n 0, 1) := by decide +kernel
theorem dX3_keep_39 : decode cX3_keep 39 = .ok (.aload_n 0, 1) := by decide +kernel
theorem dX3_keep_40 : decode cX3_keep 40 = .ok (.getfield 26, 3) := by decide +kernel
theorem dX3_keep_43 : decode cX3_keep 43 = .ok (.iconst 1, 1) := by decide +kernel
theorem dX3_keep_44 : decode cX3_keep 44 = .ok (.iadd, 1) := by decide +kernel
theorem dX3_keep_45 : decode cX3_keep 45 = .ok (.bipush 8, 2) := by decide +kernel
theorem dX3_keep_47 : decode cX3_keep 47 = .ok (.invokestatic 29, 3) := by decide +kernel
theorem dX3_keep_50 : decode cX3_keep 50 = .ok (.putfield 26, 3) := by decide +kernel
theorem dX3_keep_53 : decode cX3_keep 53 = .ok (.return_, 1) := by decide +kernel
def sm_X3_keep_0  (Q : aw_R) (p0 : Nat) (p1 : Nat) (h : aw_H) : Prop :=
  sg_R h p0 2 0 fun q1 => sg_I h p0 2 1 fun v2 => sa_R h 3 q1 v2 fun q3 => sv_O h q3 0 (tr_X0_becomes [.ref q3, .ref p1] h fun r5 h4 => sr_V r5 <| sg_I h4 p0 2 1 fun v6 => if 8 ≤ (v6 + 1) then (sp_I h4 p0 2 1 0 fun h7 => sg_I h7 p0 2 2 fun v8 => sp_I h7 p0 2 2 (if 8 < (v8 + 1) then 8 else (v8 + 1)) fun h9 => Q none h9) else (sg_I h4 p0 2 1 fun v10 => sp_I h4 p0 2 1 (v10 + 1) fun h11 => sg_I h11 p0 2 2 fun v12 => sp_I h11 p0 2 2 (if 8 < (v12 + 1) then 8 else (v12 + 1)) fun h13 => Q none h13))
set_option maxRecDepth 100000 in
set_option maxHeartbeats 4000000 in
theorem bl_X3_keep_0 {X : aw_X} {Q : aw_R} (C : aw_C X cX3_keep RX3 2 2) (Z : aw_Z X cX3_keep none Q) (p0 : Nat) (p1 : Nat) (h : aw_H) (hh : sm_X3_keep_0  Q p0 p1 h) : Sat X 0 [.ref p0, .ref p1] [] h := by
  unfold sm_X3_keep_0 at hh
  refine ow_aload_n C dX3_keep_0 rfl rfl ?_
  refine ow_getR (ci := 2) (k := 0) (T := TX3) C rfl igX3 (by decide) kw_125 dX3_keep_1 hh (fun q1 hh => ?_)
  refine ow_aload_n C dX3_keep_4 rfl rfl ?_
  refine ow_getI (ci := 2) (k := 1) (T := TX3) C rfl igX3 (by decide) kw_126 dX3_keep_5 hh (fun v2 hh => ?_)
  refine ow_aaload (t0 := 3) C dX3_keep_8 (fun _ => rfl) hh (fun q3 hh => ?_)
  refine ow_aload_n C dX3_keep_9 rfl rfl ?_
  refine ow_callV C (cv_X0_becomes _) (Nat.le_of_ble_eq_true rfl) kw_127 dX3_keep_10 (as := [.ref p1]) (st := []) rfl rfl (Nat.le_of_ble_eq_true rfl) hh (fun r5 h4 hq => ?_)
  obtain ⟨rfl, hh⟩ := sr_V_e hq
  show Sat X 13 [.ref p0, .ref p1] [] h4
  refine ow_aload_n C dX3_keep_13 rfl rfl ?_
  refine ow_aload_n C dX3_keep_14 rfl rfl ?_
  refine ow_getI (ci := 2) (k := 1) (T := TX3) C rfl igX3 (by decide) kw_126 dX3_keep_15 hh (fun v6 hh => ?_)
  refine ow_iconst (v := 1) C dX3_keep_18 rfl ?_
  refine ow_iadd C dX3_keep_19 ?_
  refine ow_bipush (v := 8) C dX3_keep_20 rfl ?_
  refine ow_icmp_ge (tgt := 34) C dX3_keep_22 (by decide) hh (fun hh => ?_) (fun hh => ?_)
  · skip
    refine ow_iconst (v := 0) C dX3_keep_34 rfl ?_
    refine ow_putI (ci := 2) (k := 1) (T := TX3) C rfl igX3 tyX3 tyX3_ok nmX3 (by decide) kw_126 rfl (by decide +kernel) dX3_keep_35 hh (fun h7 hh => ?_)
    refine ow_aload_n C dX3_keep_38 rfl rfl ?_
    refine ow_aload_n C dX3_keep_39 rfl rfl ?_
    refine ow_getI (ci := 2) (k := 2) (T := TX3) C rfl igX3 (by decide) kw_128 dX3_keep_40 hh (fun v8 hh => ?_)
    refine ow_iconst (v := 1) C dX3_keep_43 rfl ?_
    refine ow_iadd C dX3_keep_44 ?_
    refine ow_bipush (v := 8) C dX3_keep_45 rfl ?_
    refine ow_mmin C (Nat.le_of_ble_eq_true rfl) kw_129 kw_130 kw_131 kw_132 dX3_keep_47 (Nat.le_of_ble_eq_true rfl) ?_
    refine ow_putI (ci := 2) (k := 2) (T := TX3) C rfl igX3 tyX3 tyX3_ok nmX3 (by decide) kw_128 rfl (by decide +kernel) dX3_keep_50 hh (fun h9 hh => ?_)
    exact ow_vret Z dX3_keep_53 trivial hh
  · skip
    refine ow_aload_n C dX3_keep_25 rfl rfl ?_
    refine ow_getI (ci := 2) (k := 1) (T := TX3) C rfl igX3 (by decide) kw_126 dX3_keep_26 hh (fun v10 hh => ?_)
    refine ow_iconst (v := 1) C dX3_keep_29 rfl ?_
    refine ow_iadd C dX3_keep_30 ?_
    refine ow_goto (tgt := 35) C dX3_keep_31 (by decide) ?_
    refine ow_putI (ci := 2) (k := 1) (T := TX3) C rfl igX3 tyX3 tyX3_ok nmX3 (by decide) kw_126 rfl (by decide +kernel) dX3_keep_35 hh (fun h11 hh => ?_)
    refine ow_aload_n C dX3_keep_38 rfl rfl ?_
    refine ow_aload_n C dX3_keep_39 rfl rfl ?_
    refine ow_getI (ci := 2) (k := 2) (T := TX3) C rfl igX3 (by decide) kw_128 dX3_keep_40 hh (fun v12 hh => ?_)
    refine ow_iconst (v := 1) C dX3_keep_43 rfl ?_
    refine ow_iadd C dX3_keep_44 ?_
    refine ow_bipush (v := 8) C dX3_keep_45 rfl ?_
    refine ow_mmin C (Nat.le_of_ble_eq_true rfl) kw_129 kw_130 kw_131 kw_132 dX3_keep_47 (Nat.le_of_ble_eq_true rfl) ?_
    refine ow_putI (ci := 2) (k := 2) (T := TX3) C rfl igX3 tyX3 tyX3_ok nmX3 (by decide) kw_128 rfl (by decide +kernel) dX3_keep_50 hh (fun h13 hh => ?_)
    exact ow_vret Z dX3_keep_53 trivial hh
def tr_X3_keep : aw_T := fun as h Q => ∃ (p0 : Nat) (p1 : Nat), as = [.ref p0, .ref p1] ∧ (sm_X3_keep_0  Q p0 p1 h)
theorem tq_X3_keep {p0 : Nat} {p1 : Nat} {h : aw_H} {Q : aw_R} : tr_X3_keep [.ref p0, .ref p1] h Q ↔ (sm_X3_keep_0  Q p0 p1 h) := by
  constructor
  · rintro ⟨_, _, as0, hh⟩
    cases as0
    exact hh
  · intro hh
    exact ⟨_, _, rfl, hh⟩
theorem ct_X3_keep (E : aw_F) : CT E yX3_keep cX3_keep 2 none 2 tr_X3_keep := by
  refine ct_of (by decide) ?_
  intro X Q as h hE C Z hG
  subst hE
  obtain ⟨p0, p1, rfl, hh⟩ := hG
  refine ⟨[.ref p0, .ref p1], rfl, Nat.le_of_ble_eq_true rfl, ?_⟩
  exact bl_X3_keep_0 C Z p0 p1 h hh
theorem cv_X3_keep (E : aw_F) : CV E yX3_keep cX3_keep 2 none 2 1 2 tr_X3_keep := ⟨ct_X3_keep E, by decide, kw_135, kw_136, kw_134, kw_133, by decide +kernel, _, _, rfl⟩
theorem dX3_giveBack_0 : decode cX3_giveBack 0 = .ok (.aload_n 0, 1) := by decide +kernel
theorem dX3_giveBack_1 : decode cX3_giveBack 1 = .ok (.getfield 26, 3) := by decide +kernel
theorem dX3_giveBack_4 : decode cX3_giveBack 4 = .ok (.ifCond .ne 5, 3) := by decide +kernel
theorem dX3_giveBack_7 : decode cX3_giveBack 7 = .ok (.iconst 0, 1) := by decide +kernel
theorem dX3_giveBack_8 : decode cX3_giveBack 8 = .ok (.ireturn, 1) := by decide +kernel
theorem dX3_giveBack_9 : decode cX3_giveBack 9 = .ok (.aload_n 0, 1) := by decide +kernel
theorem dX3_giveBack_10 : decode cX3_giveBack 10 = .ok (.aload_n 0, 1) := by decide +kernel
theorem dX3_giveBack_11 : decode cX3_giveBack 11 = .ok (.getfield 18, 3) := by decide +kernel
theorem dX3_giveBack_14 : decode cX3_giveBack 14 = .ok (.ifCond .le 12, 3) := by decide +kernel
theorem dX3_giveBack_17 : decode cX3_giveBack 17 = .ok (.aload_n 0, 1) := by decide +kernel
theorem dX3_giveBack_18 : decode cX3_giveBack 18 = .ok (.getfield 18, 3) := by decide +kernel
theorem dX3_giveBack_21 : decode cX3_giveBack 21 = .ok (.iconst 1, 1) := by decide +kernel
theorem dX3_giveBack_22 : decode cX3_giveBack 22 = .ok (.isub, 1) := by decide +kernel
theorem dX3_giveBack_23 : decode cX3_giveBack 23 = .ok (.goto 5, 3) := by decide +kernel
theorem dX3_giveBack_26 : decode cX3_giveBack 26 = .ok (.bipush 7, 2) := by decide +kernel
theorem dX3_giveBack_28 : decode cX3_giveBack 28 = .ok (.putfield 18, 3) := by decide +kernel
theorem dX3_giveBack_31 : decode cX3_giveBack 31 = .ok (.aload_n 0, 1) := by decide +kernel
theorem dX3_giveBack_32 : decode cX3_giveBack 32 = .ok (.dup, 1) := by decide +kernel
theorem dX3_giveBack_33 : decode cX3_giveBack 33 = .ok (.getfield 26, 3) := by decide +kernel
theorem dX3_giveBack_36 : decode cX3_giveBack 36 = .ok (.iconst 1, 1) := by decide +kernel
theorem dX3_giveBack_37 : decode cX3_giveBack 37 = .ok (.isub, 1) := by decide +kernel
theorem dX3_giveBack_38 : decode cX3_giveBack 38 = .ok (.putfield 26, 3) := by decide +kernel
theorem dX3_giveBack_41 : decode cX3_giveBack 41 = .ok (.aload_n 1, 1) := by decide +kernel
theorem dX3_giveBack_42 : decode cX3_giveBack 42 = .ok (.aload_n 0, 1) := by decide +kernel
theorem dX3_giveBack_43 : decode cX3_giveBack 43 = .ok (.getfield 11, 3) := by decide +kernel
theorem dX3_giveBack_46 : decode cX3_giveBack 46 = .ok (.aload_n 0, 1) := by decide +kernel
theorem dX3_giveBack_47 : decode cX3_giveBack 47 = .ok (.getfield 18, 3) := by decide +kernel
theorem dX3_giveBack_50 : decode cX3_giveBack 50 = .ok (.aaload, 1) := by decide +kernel
theorem dX3_giveBack_51 : decode cX3_giveBack 51 = .ok (.invokevirtual 22, 3) := by decide +kernel
theorem dX3_giveBack_54 : decode cX3_giveBack 54 = .ok (.iconst 1, 1) := by decide +kernel
theorem dX3_giveBack_55 : decode cX3_giveBack 55 = .ok (.ireturn, 1) := by decide +kernel
def sm_X3_giveBack_28  (Q : aw_R) (p0 : Nat) (p1 : Nat) (ps0 : Nat) (xs1 : Int32) (h : aw_H) : Prop :=
  sp_I h ps0 2 1 xs1 fun h1 => sg_I h1 p0 2 2 fun v2 => sp_I h1 p0 2 2 (v2 - 1) fun h3 => sg_R h3 p0 2 0 fun q4 => sg_I h3 p0 2 1 fun v5 => sa_R h3 3 q4 v5 fun q6 => sv_O h3 p1 0 (tr_X0_becomes [.ref p1, .ref q6] h3 fun r8 h7 => sr_V r8 <| Q (some (.int 1)) h7)
set_option maxRecDepth 100000 in
set_option maxHeartbeats 4000000 in
theorem bl_X3_giveBack_28 {X : aw_X} {Q : aw_R} (C : aw_C X cX3_giveBack RX3 2 2) (Z : aw_Z X cX3_giveBack (some .boolean) Q) (p0 : Nat) (p1 : Nat) (ps0 : Nat) (xs1 : Int32) (h : aw_H) (hh : sm_X3_giveBack_28  Q p0 p1 ps0 xs1 h) : Sat X 28 [.ref p0, .ref p1] [.int xs1, .ref ps0] h := by
  unfold sm_X3_giveBack_28 at hh
  refine ow_putI (ci := 2) (k := 1) (T := TX3) C rfl igX3 tyX3 tyX3_ok nmX3 (by decide) kw_126 rfl (by decide +kernel) dX3_giveBack_28 hh (fun h1 hh => ?_)
  refine ow_aload_n C dX3_giveBack_31 rfl rfl ?_
  refine ow_dup C dX3_giveBack_32 rfl ?_
  refine ow_getI (ci := 2) (k := 2) (T := TX3) C rfl igX3 (by decide) kw_128 dX3_giveBack_33 hh (fun v2 hh => ?_)
  refine ow_iconst (v := 1) C dX3_giveBack_36 rfl ?_
  refine ow_isub C dX3_giveBack_37 ?_
  refine ow_putI (ci := 2) (k := 2) (T := TX3) C rfl igX3 tyX3 tyX3_ok nmX3 (by decide) kw_128 rfl (by decide +kernel) dX3_giveBack_38 hh (fun h3 hh => ?_)
  refine ow_aload_n C dX3_giveBack_41 rfl rfl ?_
  refine ow_aload_n C dX3_giveBack_42 rfl rfl ?_
  refine ow_getR (ci := 2) (k := 0) (T := TX3) C rfl igX3 (by decide) kw_125 dX3_giveBack_43 hh (fun q4 hh => ?_)
  refine ow_aload_n C dX3_giveBack_46 rfl rfl ?_
  refine ow_getI (ci := 2) (k := 1) (T := TX3) C rfl igX3 (by decide) kw_126 dX3_giveBack_47 hh (fun v5 hh => ?_)
  refine ow_aaload (t0 := 3) C dX3_giveBack_50 (fun _ => rfl) hh (fun q6 hh => ?_)
  refine ow_callV C (cv_X0_becomes _) (Nat.le_of_ble_eq_true rfl) kw_127 dX3_giveBack_51 (as := [.ref q6]) (st := []) rfl rfl (Nat.le_of_ble_eq_true rfl) hh (fun r8 h7 hq => ?_)
  obtain ⟨rfl, hh⟩ := sr_V_e hq
  show Sat X 54 [.ref p0, .ref p1] [] h7
  refine ow_iconst (v := 1) C dX3_giveBack_54 rfl ?_
  exact ow_iret Z dX3_giveBack_55 (Or.inr rfl) hh
def sm_X3_giveBack_0  (Q : aw_R) (p0 : Nat) (p1 : Nat) (h : aw_H) : Prop :=
  sg_I h p0 2 2 fun v1 => if ¬ v1 = 0 then (sg_I h p0 2 1 fun v2 => if v2 ≤ 0 then (sm_X3_giveBack_28  Q p0 p1 p0 7 h) else (sg_I h p0 2 1 fun v3 => sm_X3_giveBack_28  Q p0 p1 p0 (v3 - 1) h)) else (Q (some (.int 0)) h)
set_option maxRecDepth 100000 in
set_option maxHeartbeats 4000000 in
theorem bl_X3_giveBack_0 {X : aw_X} {Q : aw_R} (C : aw_C X cX3_giveBack RX3 2 2) (Z : aw_Z X cX3_giveBack (some .boolean) Q) (p0 : Nat) (p1 : Nat) (h : aw_H) (hh : sm_X3_giveBack_0  Q p0 p1 h) : Sat X 0 [.ref p0, .ref p1] [] h := by
  unfold sm_X3_giveBack_0 at hh
  refine ow_aload_n C dX3_giveBack_0 rfl rfl ?_
  refine ow_getI (ci := 2) (k := 2) (T := TX3) C rfl igX3 (by decide) kw_128 dX3_giveBack_1 hh (fun v1 hh => ?_)
  refine ow_if_ne (tgt := 9) C dX3_giveBack_4 (by decide) hh (fun hh => ?_) (fun hh => ?_)
  · skip
    refine ow_aload_n C dX3_giveBack_9 rfl rfl ?_
    refine ow_aload_n C dX3_giveBack_10 rfl rfl ?_
    refine ow_getI (ci := 2) (k := 1) (T := TX3) C rfl igX3 (by decide) kw_126 dX3_giveBack_11 hh (fun v2 hh => ?_)
    refine ow_if_le (tgt := 26) C dX3_giveBack_14 (by decide) hh (fun hh => ?_) (fun hh => ?_)
    · skip
      refine ow_bipush (v := 7) C dX3_giveBack_26 rfl ?_
      exact Sat.mask (bl_X3_giveBack_28 C Z p0 p1 p0 7 h hh) (mk_y (mk_y mk_0))
    · skip
      refine ow_aload_n C dX3_giveBack_17 rfl rfl ?_
      refine ow_getI (ci := 2) (k := 1) (T := TX3) C rfl igX3 (by decide) kw_126 dX3_giveBack_18 hh (fun v3 hh => ?_)
      refine ow_iconst (v := 1) C dX3_giveBack_21 rfl ?_
      refine ow_isub C dX3_giveBack_22 ?_
      refine ow_goto (tgt := 28) C dX3_giveBack_23 (by decide) ?_
      exact Sat.mask (bl_X3_giveBack_28 C Z p0 p1 p0 (v3 - 1) h hh) (mk_y (mk_y mk_0))
  · skip
    refine ow_iconst (v := 0) C dX3_giveBack_7 rfl ?_
    exact ow_iret Z dX3_giveBack_8 (Or.inl rfl) hh
def tr_X3_giveBack : aw_T := fun as h Q => ∃ (p0 : Nat) (p1 : Nat), as = [.ref p0, .ref p1] ∧ (sm_X3_giveBack_0  Q p0 p1 h)
theorem tq_X3_giveBack {p0 : Nat} {p1 : Nat} {h : aw_H} {Q : aw_R} : tr_X3_giveBack [.ref p0, .ref p1] h Q ↔ (sm_X3_giveBack_0  Q p0 p1 h) := by
  constructor
  · rintro ⟨_, _, as0, hh⟩
    cases as0
    exact hh
  · intro hh
    exact ⟨_, _, rfl, hh⟩
theorem ct_X3_giveBack (E : aw_F) : CT E yX3_giveBack cX3_giveBack 2 (some .boolean) 2 tr_X3_giveBack := by
  refine ct_of (by decide) ?_
  intro X Q as h hE C Z hG
  subst hE
  obtain ⟨p0, p1, rfl, hh⟩ := hG
  refine ⟨[.ref p0, .ref p1], rfl, Nat.le_of_ble_eq_true rfl, ?_⟩
  exact bl_X3_giveBack_0 C Z p0 p1 h hh
theorem cv_X3_giveBack (E : aw_F) : CV E yX3_giveBack cX3_giveBack 2 (some .boolean) 2 1 2 tr_X3_giveBack := ⟨ct_X3_giveBack E, by decide, kw_138, kw_139, kw_134, kw_137, by decide +kernel, _, _, rfl⟩
theorem dX3_forget_0 : decode cX3_forget 0 = .ok (.aload_n 0, 1) := by decide +kernel
theorem dX3_forget_1 : decode cX3_forget 1 = .ok (.iconst 0, 1) := by decide +kernel
theorem dX3_forget_2 : decode cX3_forget 2 = .ok (.putfield 26, 3) := by decide +kernel
theorem dX3_forget_5 : decode cX3_forget 5 = .ok (.return_, 1) := by decide +kernel
def sm_X3_forget_0  (Q : aw_R) (p0 : Nat) (h : aw_H) : Prop :=
  sp_I h p0 2 2 0 fun h1 => Q none h1
set_option maxRecDepth 100000 in
set_option maxHeartbeats 4000000 in
theorem bl_X3_forget_0 {X : aw_X} {Q : aw_R} (C : aw_C X cX3_forget RX3 1 0) (Z : aw_Z X cX3_forget none Q) (p0 : Nat) (h : aw_H) (hh : sm_X3_forget_0  Q p0 h) : Sat X 0 [.ref p0] [] h := by
  unfold sm_X3_forget_0 at hh
  refine ow_aload_n C dX3_forget_0 rfl rfl ?_
  refine ow_iconst (v := 0) C dX3_forget_1 rfl ?_
  refine ow_putI (ci := 2) (k := 2) (T := TX3) C rfl igX3 tyX3 tyX3_ok nmX3 (by decide) kw_128 rfl (by decide +kernel) dX3_forget_2 hh (fun h1 hh => ?_)
  exact ow_vret Z dX3_forget_5 trivial hh
def tr_X3_forget : aw_T := fun as h Q => ∃ (p0 : Nat), as = [.ref p0] ∧ (sm_X3_forget_0  Q p0 h)
theorem tq_X3_forget {p0 : Nat} {h : aw_H} {Q : aw_R} : tr_X3_forget [.ref p0] h Q ↔ (sm_X3_forget_0  Q p0 h) := by
  constructor
  · rintro ⟨_, as0, hh⟩
    cases as0
    exact hh
  · intro hh
    exact ⟨_, rfl, hh⟩
theorem ct_X3_forget (E : aw_F) : CT E yX3_forget cX3_forget 1 none 0 tr_X3_forget := by
  refine ct_of (by decide) ?_
  intro X Q as h hE C Z hG
  subst hE
  obtain ⟨p0, rfl, hh⟩ := hG
  refine ⟨[.ref p0], rfl, Nat.le_of_ble_eq_true rfl, ?_⟩
  exact bl_X3_forget_0 C Z p0 h hh
theorem cv_X3_forget (E : aw_F) : CV E yX3_forget cX3_forget 1 none 0 0 2 tr_X3_forget := ⟨ct_X3_forget E, by decide, kw_141, kw_142, kw_134, kw_140, by decide +kernel, _, _, rfl⟩
theorem dX3_becomes_0 : decode cX3_becomes 0 = .ok (.iconst 0, 1) := by decide +kernel
theorem dX3_becomes_1 : decode cX3_becomes 1 = .ok (.istore_n 2, 1) := by decide +kernel
theorem dX3_becomes_2 : decode cX3_becomes 2 = .ok (.iload_n 2, 1) := by decide +kernel
theorem dX3_becomes_3 : decode cX3_becomes 3 = .ok (.bipush 8, 2) := by decide +kernel
theorem dX3_becomes_5 : decode cX3_becomes 5 = .ok (.if_icmp .ge 24, 3) := by decide +kernel
theorem dX3_becomes_8 : decode cX3_becomes 8 = .ok (.aload_n 0, 1) := by decide +kernel
theorem dX3_becomes_9 : decode cX3_becomes 9 = .ok (.getfield 11, 3) := by decide +kernel
theorem dX3_becomes_12 : decode cX3_becomes 12 = .ok (.iload_n 2, 1) := by decide +kernel
theorem dX3_becomes_13 : decode cX3_becomes 13 = .ok (.aaload, 1) := by decide +kernel
theorem dX3_becomes_14 : decode cX3_becomes 14 = .ok (.aload_n 1, 1) := by decide +kernel
theorem dX3_becomes_15 : decode cX3_becomes 15 = .ok (.getfield 11, 3) := by decide +kernel
theorem dX3_becomes_18 : decode cX3_becomes 18 = .ok (.iload_n 2, 1) := by decide +kernel
theorem dX3_becomes_19 : decode cX3_becomes 19 = .ok (.aaload, 1) := by decide +kernel
theorem dX3_becomes_20 : decode cX3_becomes 20 = .ok (.invokevirtual 22, 3) := by decide +kernel
theorem dX3_becomes_23 : decode cX3_becomes 23 = .ok (.iinc 2 1, 3) := by decide +kernel
theorem dX3_becomes_26 : decode cX3_becomes 26 = .ok (.goto (-24), 3) := by decide +kernel
theorem dX3_becomes_29 : decode cX3_becomes 29 = .ok (.aload_n 0, 1) := by decide +kernel
theorem dX3_becomes_30 : decode cX3_becomes 30 = .ok (.aload_n 1, 1) := by decide +kernel
theorem dX3_becomes_31 : decode cX3_becomes 31 = .ok (.getfield 18, 3) := by decide +kernel
theorem dX3_becomes_34 : decode cX3_becomes 34 = .ok (.putfield 18, 3) := by decide +kernel
theorem dX3_becomes_37 : decode cX3_becomes 37 = .ok (.aload_n 0, 1) := by decide +kernel
theorem dX3_becomes_38 : decode cX3_becomes 38 = .ok (.aload_n 1, 1) := by decide +kernel
theorem dX3_becomes_39 : decode cX3_becomes 39 = .ok (.getfield 26, 3) := by decide +kernel
theorem dX3_becomes_42 : decode cX3_becomes 42 = .ok (.putfield 26, 3) := by decide +kernel
theorem dX3_becomes_45 : decode cX3_becomes 45 = .ok (.return_, 1) := by decide +kernel
def sm_X3_becomes_2 (K2 : Nat → Nat → Int32 → aw_H → Prop) (Q : aw_R) (p0 : Nat) (p1 : Nat) (x2 : Int32) (h : aw_H) : Prop :=
  if 8 ≤ x2 then (sg_I h p1 2 1 fun v1 => sp_I h p0 2 1 v1 fun h2 => sg_I h2 p1 2 2 fun v3 => sp_I h2 p0 2 2 v3 fun h4 => Q none h4) else (sg_R h p0 2 0 fun q5 => sa_R h 3 q5 x2 fun q6 => sg_R h p1 2 0 fun q7 => sa_R h 3 q7 x2 fun q8 => sv_O h q6 0 (tr_X0_becomes [.ref q6, .ref q8] h fun r10 h9 => sr_V r10 <| K2 p0 p1 (x2 + 1) h9))
set_option maxRecDepth 100000 in
set_option maxHeartbeats 4000000 in
theorem bl_X3_becomes_2 {X : aw_X} {Q : aw_R} (C : aw_C X cX3_becomes RX3 3 2) (Z : aw_Z X cX3_becomes none Q) (p0 : Nat) (p1 : Nat) (x2 : Int32) (h : aw_H) (hh : sm_X3_becomes_2 (fun (p0 : Nat) (p1 : Nat) (x2 : Int32) (h : aw_H) => Sat X 2 [.ref p0, .ref p1, .int x2] [] h) Q p0 p1 x2 h) : Sat X 2 [.ref p0, .ref p1, .int x2] [] h := by
  unfold sm_X3_becomes_2 at hh
  refine ow_iload_n C dX3_becomes_2 rfl rfl ?_
  refine ow_bipush (v := 8) C dX3_becomes_3 rfl ?_
  refine ow_icmp_ge (tgt := 29) C dX3_becomes_5 (by decide) hh (fun hh => ?_) (fun hh => ?_)
  · skip
    refine ow_aload_n C dX3_becomes_29 rfl rfl ?_
    refine ow_aload_n C dX3_becomes_30 rfl rfl ?_
    refine ow_getI (ci := 2) (k := 1) (T := TX3) C rfl igX3 (by decide) kw_126 dX3_becomes_31 hh (fun v1 hh => ?_)
    refine ow_putI (ci := 2) (k := 1) (T := TX3) C rfl igX3 tyX3 tyX3_ok nmX3 (by decide) kw_126 rfl (by decide +kernel) dX3_becomes_34 hh (fun h2 hh => ?_)
    refine ow_aload_n C dX3_becomes_37 rfl rfl ?_
    refine ow_aload_n C dX3_becomes_38 rfl rfl ?_
    refine ow_getI (ci := 2) (k := 2) (T := TX3) C rfl igX3 (by decide) kw_128 dX3_becomes_39 hh (fun v3 hh => ?_)
    refine ow_putI (ci := 2) (k := 2) (T := TX3) C rfl igX3 tyX3 tyX3_ok nmX3 (by decide) kw_128 rfl (by decide +kernel) dX3_becomes_42 hh (fun h4 hh => ?_)
    exact ow_vret Z dX3_becomes_45 trivial hh
  · skip
    refine ow_aload_n C dX3_becomes_8 rfl rfl ?_
    refine ow_getR (ci := 2) (k := 0) (T := TX3) C rfl igX3 (by decide) kw_125 dX3_becomes_9 hh (fun q5 hh => ?_)
    refine ow_iload_n C dX3_becomes_12 rfl rfl ?_
    refine ow_aaload (t0 := 3) C dX3_becomes_13 (fun _ => rfl) hh (fun q6 hh => ?_)
    refine ow_aload_n C dX3_becomes_14 rfl rfl ?_
    refine ow_getR (ci := 2) (k := 0) (T := TX3) C rfl igX3 (by decide) kw_125 dX3_becomes_15 hh (fun q7 hh => ?_)
    refine ow_iload_n C dX3_becomes_18 rfl rfl ?_
    refine ow_aaload (t0 := 3) C dX3_becomes_19 (fun _ => rfl) hh (fun q8 hh => ?_)
    refine ow_callV C (cv_X0_becomes _) (Nat.le_of_ble_eq_true rfl) kw_127 dX3_becomes_20 (as := [.ref q8]) (st := []) rfl rfl (Nat.le_of_ble_eq_true rfl) hh (fun r10 h9 hq => ?_)
    obtain ⟨rfl, hh⟩ := sr_V_e hq
    show Sat X 23 [.ref p0, .ref p1, .int x2] [] h9
    refine ow_iinc (v := x2 + 1) (L' := [.ref p0, .ref p1, .int (x2 + 1)]) C dX3_becomes_23 rfl rfl (by decide) rfl ?_
    refine ow_goto (tgt := 2) C dX3_becomes_26 (by decide) ?_
    exact Sat.mask hh (mk_y (mk_y (mk_y mk_0)))
def sm_X3_becomes_0 (K2 : Nat → Nat → Int32 → aw_H → Prop) (Q : aw_R) (p0 : Nat) (p1 : Nat) (h : aw_H) : Prop :=
  K2 p0 p1 0 h
set_option maxRecDepth 100000 in
set_option maxHeartbeats 4000000 in
theorem bl_X3_becomes_0 {X : aw_X} {Q : aw_R} (C : aw_C X cX3_becomes RX3 3 2) (Z : aw_Z X cX3_becomes none Q) (p0 : Nat) (p1 : Nat) (h : aw_H) (hh : sm_X3_becomes_0 (fun (p0 : Nat) (p1 : Nat) (x2 : Int32) (h : aw_H) => Sat X 2 [.ref p0, .ref p1, .int x2] [] h) Q p0 p1 h) : Sat X 0 [.ref p0, .ref p1, Value.null] [] h := by
  unfold sm_X3_becomes_0 at hh
  refine ow_iconst (v := 0) C dX3_becomes_0 rfl ?_
  refine ow_istore_n (L' := [.ref p0, .ref p1, .int 0]) C dX3_becomes_1 rfl (by decide) rfl ?_
  exact Sat.mask hh (mk_y (mk_y (mk_y mk_0)))
def tr_X3_becomes : aw_T := fun as h Q => ∃ (p0 : Nat) (p1 : Nat), as = [.ref p0, .ref p1] ∧ (∀ (K2 : Nat → Nat → Int32 → aw_H → Prop), (∀ (p0 : Nat) (p1 : Nat) (x2 : Int32) (h : aw_H), sm_X3_becomes_2 K2 Q p0 p1 x2 h → K2 p0 p1 x2 h) → sm_X3_becomes_0 K2 Q p0 p1 h)
theorem tq_X3_becomes {p0 : Nat} {p1 : Nat} {h : aw_H} {Q : aw_R} : tr_X3_becomes [.ref p0, .ref p1] h Q ↔ (∀ (K2 : Nat → Nat → Int32 → aw_H → Prop), (∀ (p0 : Nat) (p1 : Nat) (x2 : Int32) (h : aw_H), sm_X3_becomes_2 K2 Q p0 p1 x2 h → K2 p0 p1 x2 h) → sm_X3_becomes_0 K2 Q p0 p1 h) := by
  constructor
  · rintro ⟨_, _, as0, hh⟩
    cases as0
    exact hh
  · intro hh
    exact ⟨_, _, rfl, hh⟩
theorem ct_X3_becomes (E : aw_F) : CT E yX3_becomes cX3_becomes 3 none 2 tr_X3_becomes := by
  refine ct_of (by decide) ?_
  intro X Q as h hE C Z hG
  subst hE
  obtain ⟨p0, p1, rfl, hh⟩ := hG
  refine ⟨[.ref p0, .ref p1, Value.null], rfl, Nat.le_of_ble_eq_true rfl, ?_⟩
  exact bl_X3_becomes_0 C Z p0 p1 h (hh (fun (p0 : Nat) (p1 : Nat) (x2 : Int32) (h : aw_H) => Sat X 2 [.ref p0, .ref p1, .int x2] [] h) (fun p0 p1 x2 h hh => bl_X3_becomes_2 C Z p0 p1 x2 h hh))
theorem cv_X3_becomes (E : aw_F) : CV E yX3_becomes cX3_becomes 3 none 2 1 2 tr_X3_becomes := ⟨ct_X3_becomes E, by decide, kw_144, kw_145, kw_134, kw_143, by decide +kernel, _, _, rfl⟩
