theorem dX7_drift_0 : decode cX7_drift 0 = .ok (.iload_n 1, 1) := by decide +kernel
theorem dX7_drift_1 : decode cX7_drift 1 = .ok (.iconst 1, 1) := by decide +kernel
theorem dX7_drift_2 : decode cX7_drift 2 = .ok (.bipush 40, 2) := by decide +kernel
theorem dX7_drift_4 : decode cX7_drift 4 = .ok (.invokestatic 42, 3) := by decide +kernel
theorem dX7_drift_7 : decode cX7_drift 7 = .ok (.ifCond .ne 5, 3) := by decide +kernel
theorem dX7_drift_10 : decode cX7_drift 10 = .ok (.iconst (-1), 1) := by decide +kernel
theorem dX7_drift_11 : decode cX7_drift 11 = .ok (.ireturn, 1) := by decide +kernel
theorem dX7_drift_12 : decode cX7_drift 12 = .ok (.iconst 0, 1) := by decide +kernel
theorem dX7_drift_13 : decode cX7_drift 13 = .ok (.istore_n 2, 1) := by decide +kernel
theorem dX7_drift_14 : decode cX7_drift 14 = .ok (.iload_n 2, 1) := by decide +kernel
theorem dX7_drift_15 : decode cX7_drift 15 = .ok (.iload_n 1, 1) := by decide +kernel
theorem dX7_drift_16 : decode cX7_drift 16 = .ok (.if_icmp .ge 114, 3) := by decide +kernel
theorem dX7_drift_19 : decode cX7_drift 19 = .ok (.aload_n 0, 1) := by decide +kernel
theorem dX7_drift_20 : decode cX7_drift 20 = .ok (.invokevirtual 144, 3) := by decide +kernel
theorem dX7_drift_23 : decode cX7_drift 23 = .ok (.aload_n 0, 1) := by decide +kernel
theorem dX7_drift_24 : decode cX7_drift 24 = .ok (.getfield 7, 3) := by decide +kernel
theorem dX7_drift_27 : decode cX7_drift 27 = .ok (.iconst 4, 1) := by decide +kernel
theorem dX7_drift_28 : decode cX7_drift 28 = .ok (.aload_n 0, 1) := by decide +kernel
theorem dX7_drift_29 : decode cX7_drift 29 = .ok (.getfield 7, 3) := by decide +kernel
theorem dX7_drift_32 : decode cX7_drift 32 = .ok (.iconst 4, 1) := by decide +kernel
theorem dX7_drift_33 : decode cX7_drift 33 = .ok (.iaload, 1) := by decide +kernel
theorem dX7_drift_34 : decode cX7_drift 34 = .ok (.i2l, 1) := by decide +kernel
theorem dX7_drift_35 : decode cX7_drift 35 = .ok (.ldc2_w 156, 3) := by decide +kernel
theorem dX7_drift_38 : decode cX7_drift 38 = .ok (.lmul, 1) := by decide +kernel
theorem dX7_drift_39 : decode cX7_drift 39 = .ok (.ldc2_w 158, 3) := by decide +kernel
theorem dX7_drift_42 : decode cX7_drift 42 = .ok (.ladd, 1) := by decide +kernel
theorem dX7_drift_43 : decode cX7_drift 43 = .ok (.ldc2_w 160, 3) := by decide +kernel
theorem dX7_drift_46 : decode cX7_drift 46 = .ok (.land, 1) := by decide +kernel
theorem dX7_drift_47 : decode cX7_drift 47 = .ok (.l2i, 1) := by decide +kernel
theorem dX7_drift_48 : decode cX7_drift 48 = .ok (.iastore, 1) := by decide +kernel
theorem dX7_drift_49 : decode cX7_drift 49 = .ok (.aload_n 0, 1) := by decide +kernel
theorem dX7_drift_50 : decode cX7_drift 50 = .ok (.getfield 7, 3) := by decide +kernel
theorem dX7_drift_53 : decode cX7_drift 53 = .ok (.iconst 2, 1) := by decide +kernel
theorem dX7_drift_54 : decode cX7_drift 54 = .ok (.dup2, 1) := by decide +kernel
theorem dX7_drift_55 : decode cX7_drift 55 = .ok (.iaload, 1) := by decide +kernel
theorem dX7_drift_56 : decode cX7_drift 56 = .ok (.aload_n 0, 1) := by decide +kernel
theorem dX7_drift_57 : decode cX7_drift 57 = .ok (.getfield 7, 3) := by decide +kernel
theorem dX7_drift_60 : decode cX7_drift 60 = .ok (.iconst 4, 1) := by decide +kernel
theorem dX7_drift_61 : decode cX7_drift 61 = .ok (.iaload, 1) := by decide +kernel
theorem dX7_drift_62 : decode cX7_drift 62 = .ok (.ldc 162, 2) := by decide +kernel
theorem dX7_drift_64 : decode cX7_drift 64 = .ok (.idiv, 1) := by decide +kernel
theorem dX7_drift_65 : decode cX7_drift 65 = .ok (.iconst 3, 1) := by decide +kernel
theorem dX7_drift_66 : decode cX7_drift 66 = .ok (.irem, 1) := by decide +kernel
theorem dX7_drift_67 : decode cX7_drift 67 = .ok (.ifCond .ne 25, 3) := by decide +kernel
theorem dX7_drift_70 : decode cX7_drift 70 = .ok (.iconst 1, 1) := by decide +kernel
theorem dX7_drift_71 : decode cX7_drift 71 = .ok (.aload_n 0, 1) := by decide +kernel
theorem dX7_drift_72 : decode cX7_drift 72 = .ok (.getfield 7, 3) := by decide +kernel
theorem dX7_drift_75 : decode cX7_drift 75 = .ok (.iconst 4, 1) := by decide +kernel
theorem dX7_drift_76 : decode cX7_drift 76 = .ok (.iaload, 1) := by decide +kernel
theorem dX7_drift_77 : decode cX7_drift 77 = .ok (.sipush 256, 3) := by decide +kernel
theorem dX7_drift_80 : decode cX7_drift 80 = .ok (.idiv, 1) := by decide +kernel
theorem dX7_drift_81 : decode cX7_drift 81 = .ok (.aload_n 0, 1) := by decide +kernel
theorem dX7_drift_82 : decode cX7_drift 82 = .ok (.getfield 7, 3) := by decide +kernel
theorem dX7_drift_85 : decode cX7_drift 85 = .ok (.iconst 0, 1) := by decide +kernel
theorem dX7_drift_86 : decode cX7_drift 86 = .ok (.iaload, 1) := by decide +kernel
theorem dX7_drift_87 : decode cX7_drift 87 = .ok (.irem, 1) := by decide +kernel
theorem dX7_drift_88 : decode cX7_drift 88 = .ok (.ishl, 1) := by decide +kernel
theorem dX7_drift_89 : decode cX7_drift 89 = .ok (.goto 4, 3) := by decide +kernel
theorem dX7_drift_92 : decode cX7_drift 92 = .ok (.iconst 0, 1) := by decide +kernel
theorem dX7_drift_93 : decode cX7_drift 93 = .ok (.ixor, 1) := by decide +kernel
theorem dX7_drift_94 : decode cX7_drift 94 = .ok (.iastore, 1) := by decide +kernel
theorem dX7_drift_95 : decode cX7_drift 95 = .ok (.aload_n 0, 1) := by decide +kernel
theorem dX7_drift_96 : decode cX7_drift 96 = .ok (.getfield 7, 3) := by decide +kernel
theorem dX7_drift_99 : decode cX7_drift 99 = .ok (.iconst 3, 1) := by decide +kernel
theorem dX7_drift_100 : decode cX7_drift 100 = .ok (.iaload, 1) := by decide +kernel
theorem dX7_drift_101 : decode cX7_drift 101 = .ok (.aload_n 0, 1) := by decide +kernel
theorem dX7_drift_102 : decode cX7_drift 102 = .ok (.getfield 7, 3) := by decide +kernel
theorem dX7_drift_105 : decode cX7_drift 105 = .ok (.iconst 1, 1) := by decide +kernel
theorem dX7_drift_106 : decode cX7_drift 106 = .ok (.iaload, 1) := by decide +kernel
theorem dX7_drift_107 : decode cX7_drift 107 = .ok (.if_icmp .ne 13, 3) := by decide +kernel
theorem dX7_drift_110 : decode cX7_drift 110 = .ok (.aload_n 0, 1) := by decide +kernel
theorem dX7_drift_111 : decode cX7_drift 111 = .ok (.getfield 7, 3) := by decide +kernel
theorem dX7_drift_114 : decode cX7_drift 114 = .ok (.iconst 3, 1) := by decide +kernel
theorem dX7_drift_115 : decode cX7_drift 115 = .ok (.iconst 0, 1) := by decide +kernel
theorem dX7_drift_116 : decode cX7_drift 116 = .ok (.iastore, 1) := by decide +kernel
theorem dX7_drift_117 : decode cX7_drift 117 = .ok (.goto 7, 3) := by decide +kernel
theorem dX7_drift_120 : decode cX7_drift 120 = .ok (.aload_n 0, 1) := by decide +kernel
theorem dX7_drift_121 : decode cX7_drift 121 = .ok (.invokevirtual 147, 3) := by decide +kernel
theorem dX7_drift_124 : decode cX7_drift 124 = .ok (.iinc 2 1, 3) := by decide +kernel
theorem dX7_drift_127 : decode cX7_drift 127 = .ok (.goto (-113), 3) := by decide +kernel
theorem dX7_drift_130 : decode cX7_drift 130 = .ok (.aload_n 0, 1) := by decide +kernel
theorem dX7_drift_131 : decode cX7_drift 131 = .ok (.getfield 7, 3) := by decide +kernel
theorem dX7_drift_134 : decode cX7_drift 134 = .ok (.iconst 2, 1) := by decide +kernel
theorem dX7_drift_135 : decode cX7_drift 135 = .ok (.iaload, 1) := by decide +kernel
theorem dX7_drift_136 : decode cX7_drift 136 = .ok (.ireturn, 1) := by decide +kernel
def sm_X7_drift_93 (K14 : Nat → Int32 → Int32 → aw_H → Prop) (Q : aw_R) (p0 : Nat) (x1 : Int32) (x2 : Int32) (ps0 : Nat) (xs1 : Int32) (xs2 : Int32) (xs3 : Int32) (h : aw_H) : Prop :=
  ss_I h ps0 xs1 (xs2 ^^^ xs3) fun h1 => sg_R h1 p0 6 0 fun q2 => sa_I h1 q2 3 fun v3 => sg_R h1 p0 6 0 fun q4 => sa_I h1 q4 1 fun v5 => if ¬ v3 = v5 then (sv_O h1 p0 6 (tr_X7_stepOn [.ref p0] h1 fun r7 h6 => sr_V r7 <| K14 p0 x1 (x2 + 1) h6)) else (sg_R h1 p0 6 0 fun q8 => ss_I h1 q8 3 0 fun h9 => K14 p0 x1 (x2 + 1) h9)
set_option maxRecDepth 100000 in
set_option maxHeartbeats 4000000 in
theorem bl_X7_drift_93 {X : aw_X} {Q : aw_R} (C : aw_C X cX7_drift RX7 3 5) (Z : aw_Z X cX7_drift (some .int) Q) (p0 : Nat) (x1 : Int32) (x2 : Int32) (ps0 : Nat) (xs1 : Int32) (xs2 : Int32) (xs3 : Int32) (h : aw_H) (hh : sm_X7_drift_93 (fun (p0 : Nat) (x1 : Int32) (x2 : Int32) (h : aw_H) => Sat X 14 [.ref p0, .int x1, .int x2] [] h) Q p0 x1 x2 ps0 xs1 xs2 xs3 h) : Sat X 93 [.ref p0, .int x1, .int x2] [.int xs3, .int xs2, .int xs1, .ref ps0] h := by
  unfold sm_X7_drift_93 at hh
  refine ow_ixor C dX7_drift_93 ?_
  refine ow_iastore C dX7_drift_94 hh (fun h1 hh => ?_)
  refine ow_aload_n C dX7_drift_95 rfl rfl ?_
  refine ow_getR (ci := 6) (k := 0) (T := TX7) C rfl igX7 (by decide) kw_533 dX7_drift_96 hh (fun q2 hh => ?_)
  refine ow_iconst (v := 3) C dX7_drift_99 rfl ?_
  refine ow_iaload C dX7_drift_100 hh (fun v3 hh => ?_)
  refine ow_aload_n C dX7_drift_101 rfl rfl ?_
  refine ow_getR (ci := 6) (k := 0) (T := TX7) C rfl igX7 (by decide) kw_533 dX7_drift_102 hh (fun q4 hh => ?_)
  refine ow_iconst (v := 1) C dX7_drift_105 rfl ?_
  refine ow_iaload C dX7_drift_106 hh (fun v5 hh => ?_)
  refine ow_icmp_ne (tgt := 120) C dX7_drift_107 (by decide) hh (fun hh => ?_) (fun hh => ?_)
  · skip
    refine ow_aload_n C dX7_drift_120 rfl rfl ?_
    refine ow_callV C (cv_X7_stepOn _) (Nat.le_of_ble_eq_true rfl) kw_660 dX7_drift_121 (as := []) (st := []) rfl rfl (Nat.le_of_ble_eq_true rfl) hh (fun r7 h6 hq => ?_)
    obtain ⟨rfl, hh⟩ := sr_V_e hq
    show Sat X 124 [.ref p0, .int x1, .int x2] [] h6
    refine ow_iinc (v := x2 + 1) (L' := [.ref p0, .int x1, .int (x2 + 1)]) C dX7_drift_124 rfl rfl (by decide) rfl ?_
    refine ow_goto (tgt := 14) C dX7_drift_127 (by decide) ?_
    exact Sat.mask hh (mk_y (mk_y (mk_y mk_0)))
  · skip
    refine ow_aload_n C dX7_drift_110 rfl rfl ?_
    refine ow_getR (ci := 6) (k := 0) (T := TX7) C rfl igX7 (by decide) kw_533 dX7_drift_111 hh (fun q8 hh => ?_)
    refine ow_iconst (v := 3) C dX7_drift_114 rfl ?_
    refine ow_iconst (v := 0) C dX7_drift_115 rfl ?_
    refine ow_iastore C dX7_drift_116 hh (fun h9 hh => ?_)
    refine ow_goto (tgt := 124) C dX7_drift_117 (by decide) ?_
    refine ow_iinc (v := x2 + 1) (L' := [.ref p0, .int x1, .int (x2 + 1)]) C dX7_drift_124 rfl rfl (by decide) rfl ?_
    refine ow_goto (tgt := 14) C dX7_drift_127 (by decide) ?_
    exact Sat.mask hh (mk_y (mk_y (mk_y mk_0)))
def sm_X7_drift_14 (K14 : Nat → Int32 → Int32 → aw_H → Prop) (Q : aw_R) (p0 : Nat) (x1 : Int32) (x2 : Int32) (h : aw_H) : Prop :=
  if x1 ≤ x2 then (sg_R h p0 6 0 fun q1 => sa_I h q1 2 fun v2 => Q (some (.int v2)) h) else (sv_O h p0 6 (tr_X7_remember [.ref p0] h fun r4 h3 => sr_V r4 <| sg_R h3 p0 6 0 fun q5 => sg_R h3 p0 6 0 fun q6 => sa_I h3 q6 4 fun v7 => ss_I h3 q5 4 (Int64.toInt32 ((((Int32.toInt64 v7) * 1103515245) + 12345) &&& 2147483647)) fun h8 => sg_R h8 p0 6 0 fun q9 => sa_I h8 q9 2 fun v10 => sg_R h8 p0 6 0 fun q11 => sa_I h8 q11 4 fun v12 => ¬ (65536 : Int32) = 0 ∧ (¬ (3 : Int32) = 0 ∧ (if ¬ ((v12 / 65536) - (v12 / 65536) / 3 * 3) = 0 then (sm_X7_drift_93 K14 Q p0 x1 x2 q9 2 v10 0 h8) else (sg_R h8 p0 6 0 fun q13 => sa_I h8 q13 4 fun v14 => ¬ (256 : Int32) = 0 ∧ (sg_R h8 p0 6 0 fun q15 => sa_I h8 q15 0 fun v16 => ¬ v16 = 0 ∧ (sm_X7_drift_93 K14 Q p0 x1 x2 q9 2 v10 ((1 : Int32) <<< (((v14 / 256) - (v14 / 256) / v16 * v16) &&& 31)) h8)))))))
set_option maxRecDepth 100000 in
set_option maxHeartbeats 4000000 in
theorem bl_X7_drift_14 {X : aw_X} {Q : aw_R} (C : aw_C X cX7_drift RX7 3 5) (Z : aw_Z X cX7_drift (some .int) Q) (p0 : Nat) (x1 : Int32) (x2 : Int32) (h : aw_H) (hh : sm_X7_drift_14 (fun (p0 : Nat) (x1 : Int32) (x2 : Int32) (h : aw_H) => Sat X 14 [.ref p0, .int x1, .int x2] [] h) Q p0 x1 x2 h) : Sat X 14 [.ref p0, .int x1, .int x2] [] h := by
  unfold sm_X7_drift_14 at hh
  refine ow_iload_n C dX7_drift_14 rfl rfl ?_
  refine ow_iload_n C dX7_drift_15 rfl rfl ?_
  refine ow_icmp_ge (tgt := 130) C dX7_drift_16 (by decide) hh (fun hh => ?_) (fun hh => ?_)
  · skip
    refine ow_aload_n C dX7_drift_130 rfl rfl ?_
    refine ow_getR (ci := 6) (k := 0) (T := TX7) C rfl igX7 (by decide) kw_533 dX7_drift_131 hh (fun q1 hh => ?_)
    refine ow_iconst (v := 2) C dX7_drift_134 rfl ?_
    refine ow_iaload C dX7_drift_135 hh (fun v2 hh => ?_)
    exact ow_iret Z dX7_drift_136 trivial hh
  · skip
    refine ow_aload_n C dX7_drift_19 rfl rfl ?_
    refine ow_callV C (cv_X7_remember _) (Nat.le_of_ble_eq_true rfl) kw_659 dX7_drift_20 (as := []) (st := []) rfl rfl (Nat.le_of_ble_eq_true rfl) hh (fun r4 h3 hq => ?_)
    obtain ⟨rfl, hh⟩ := sr_V_e hq
    show Sat X 23 [.ref p0, .int x1, .int x2] [] h3
    refine ow_aload_n C dX7_drift_23 rfl rfl ?_
    refine ow_getR (ci := 6) (k := 0) (T := TX7) C rfl igX7 (by decide) kw_533 dX7_drift_24 hh (fun q5 hh => ?_)
    refine ow_iconst (v := 4) C dX7_drift_27 rfl ?_
    refine ow_aload_n C dX7_drift_28 rfl rfl ?_
    refine ow_getR (ci := 6) (k := 0) (T := TX7) C rfl igX7 (by decide) kw_533 dX7_drift_29 hh (fun q6 hh => ?_)
    refine ow_iconst (v := 4) C dX7_drift_32 rfl ?_
    refine ow_iaload C dX7_drift_33 hh (fun v7 hh => ?_)
    refine ow_i2l C dX7_drift_34 ?_
    refine ow_ldc2 C kw_690 dX7_drift_35 ?_
    refine ow_lmul C dX7_drift_38 ?_
    refine ow_ldc2 C kw_691 dX7_drift_39 ?_
    refine ow_ladd C dX7_drift_42 ?_
    refine ow_ldc2 C kw_692 dX7_drift_43 ?_
    refine ow_land C dX7_drift_46 ?_
    refine ow_l2i C dX7_drift_47 ?_
    refine ow_iastore C dX7_drift_48 hh (fun h8 hh => ?_)
    refine ow_aload_n C dX7_drift_49 rfl rfl ?_
    refine ow_getR (ci := 6) (k := 0) (T := TX7) C rfl igX7 (by decide) kw_533 dX7_drift_50 hh (fun q9 hh => ?_)
    refine ow_iconst (v := 2) C dX7_drift_53 rfl ?_
    refine ow_dup2 C dX7_drift_54 rfl rfl ?_
    refine ow_iaload C dX7_drift_55 hh (fun v10 hh => ?_)
    refine ow_aload_n C dX7_drift_56 rfl rfl ?_
    refine ow_getR (ci := 6) (k := 0) (T := TX7) C rfl igX7 (by decide) kw_533 dX7_drift_57 hh (fun q11 hh => ?_)
    refine ow_iconst (v := 4) C dX7_drift_60 rfl ?_
    refine ow_iaload C dX7_drift_61 hh (fun v12 hh => ?_)
    refine ow_ldc C kw_693 dX7_drift_62 ?_
    refine ow_idiv C dX7_drift_64 hh (fun hh => ?_)
    refine ow_iconst (v := 3) C dX7_drift_65 rfl ?_
    refine ow_irem C dX7_drift_66 hh (fun hh => ?_)
    refine ow_if_ne (tgt := 92) C dX7_drift_67 (by decide) hh (fun hh => ?_) (fun hh => ?_)
    · skip
      refine ow_iconst (v := 0) C dX7_drift_92 rfl ?_
      exact Sat.mask (bl_X7_drift_93 C Z p0 x1 x2 q9 2 v10 0 h8 hh) (mk_y (mk_y (mk_y mk_0)))
    · skip
      refine ow_iconst (v := 1) C dX7_drift_70 rfl ?_
      refine ow_aload_n C dX7_drift_71 rfl rfl ?_
      refine ow_getR (ci := 6) (k := 0) (T := TX7) C rfl igX7 (by decide) kw_533 dX7_drift_72 hh (fun q13 hh => ?_)
      refine ow_iconst (v := 4) C dX7_drift_75 rfl ?_
      refine ow_iaload C dX7_drift_76 hh (fun v14 hh => ?_)
      refine ow_sipush (v := 256) C dX7_drift_77 rfl ?_
      refine ow_idiv C dX7_drift_80 hh (fun hh => ?_)
      refine ow_aload_n C dX7_drift_81 rfl rfl ?_
      refine ow_getR (ci := 6) (k := 0) (T := TX7) C rfl igX7 (by decide) kw_533 dX7_drift_82 hh (fun q15 hh => ?_)
      refine ow_iconst (v := 0) C dX7_drift_85 rfl ?_
      refine ow_iaload C dX7_drift_86 hh (fun v16 hh => ?_)
      refine ow_irem C dX7_drift_87 hh (fun hh => ?_)
      refine ow_ishl C dX7_drift_88 ?_
      refine ow_goto (tgt := 93) C dX7_drift_89 (by decide) ?_
      exact Sat.mask (bl_X7_drift_93 C Z p0 x1 x2 q9 2 v10 ((1 : Int32) <<< (((v14 / 256) - (v14 / 256) / v16 * v16) &&& 31)) h8 hh) (mk_y (mk_y (mk_y mk_0)))
def sm_X7_drift_0 (K14 : Nat → Int32 → Int32 → aw_H → Prop) (Q : aw_R) (p0 : Nat) (x1 : Int32) (h : aw_H) : Prop :=
  tr_X7_in [.int x1, .int 1, .int 40] h fun r2 h1 => sr_I r2 fun v3 => if ¬ v3 = 0 then (K14 p0 x1 0 h1) else (Q (some (.int ((-1)))) h1)
set_option maxRecDepth 100000 in
set_option maxHeartbeats 4000000 in
theorem bl_X7_drift_0 {X : aw_X} {Q : aw_R} (C : aw_C X cX7_drift RX7 3 5) (Z : aw_Z X cX7_drift (some .int) Q) (p0 : Nat) (x1 : Int32) (h : aw_H) (hh : sm_X7_drift_0 (fun (p0 : Nat) (x1 : Int32) (x2 : Int32) (h : aw_H) => Sat X 14 [.ref p0, .int x1, .int x2] [] h) Q p0 x1 h) : Sat X 0 [.ref p0, .int x1, Value.null] [] h := by
  unfold sm_X7_drift_0 at hh
  refine ow_iload_n C dX7_drift_0 rfl rfl ?_
  refine ow_iconst (v := 1) C dX7_drift_1 rfl ?_
  refine ow_bipush (v := 40) C dX7_drift_2 rfl ?_
  refine ow_callS C (cs_X7_in _) (Nat.le_of_ble_eq_true rfl) kw_541 dX7_drift_4 (as := [.int x1, .int 1, .int 40]) (st := []) rfl rfl (Nat.le_of_ble_eq_true rfl) hh (fun r2 h1 hq => ?_)
  obtain ⟨v3, rfl, hh⟩ := sr_I_e hq
  show Sat X 7 [.ref p0, .int x1, Value.null] [.int v3] h1
  refine ow_if_ne (tgt := 12) C dX7_drift_7 (by decide) hh (fun hh => ?_) (fun hh => ?_)
  · skip
    refine ow_iconst (v := 0) C dX7_drift_12 rfl ?_
    refine ow_istore_n (L' := [.ref p0, .int x1, .int 0]) C dX7_drift_13 rfl (by decide) rfl ?_
    exact Sat.mask hh (mk_y (mk_y (mk_y mk_0)))
  · skip
    refine ow_iconst (v := (-1)) C dX7_drift_10 rfl ?_
    exact ow_iret Z dX7_drift_11 trivial hh
def tr_X7_drift : aw_T := fun as h Q => ∃ (p0 : Nat) (x1 : Int32), as = [.ref p0, .int x1] ∧ (∀ (K14 : Nat → Int32 → Int32 → aw_H → Prop), (∀ (p0 : Nat) (x1 : Int32) (x2 : Int32) (h : aw_H), sm_X7_drift_14 K14 Q p0 x1 x2 h → K14 p0 x1 x2 h) → sm_X7_drift_0 K14 Q p0 x1 h)
theorem tq_X7_drift {p0 : Nat} {x1 : Int32} {h : aw_H} {Q : aw_R} : tr_X7_drift [.ref p0, .int x1] h Q ↔ (∀ (K14 : Nat → Int32 → Int32 → aw_H → Prop), (∀ (p0 : Nat) (x1 : Int32) (x2 : Int32) (h : aw_H), sm_X7_drift_14 K14 Q p0 x1 x2 h → K14 p0 x1 x2 h) → sm_X7_drift_0 K14 Q p0 x1 h) := by
  constructor
  · rintro ⟨_, _, as0, hh⟩
    cases as0
    exact hh
  · intro hh
    exact ⟨_, _, rfl, hh⟩
theorem ct_X7_drift (E : aw_F) : CT E yX7_drift cX7_drift 3 (some .int) 5 tr_X7_drift := by
  refine ct_of (by decide) ?_
  intro X Q as h hE C Z hG
  subst hE
  obtain ⟨p0, x1, rfl, hh⟩ := hG
  refine ⟨[.ref p0, .int x1, Value.null], rfl, Nat.le_of_ble_eq_true rfl, ?_⟩
  exact bl_X7_drift_0 C Z p0 x1 h (hh (fun (p0 : Nat) (x1 : Int32) (x2 : Int32) (h : aw_H) => Sat X 14 [.ref p0, .int x1, .int x2] [] h) (fun p0 x1 x2 h hh => bl_X7_drift_14 C Z p0 x1 x2 h hh))
theorem cv_X7_drift (E : aw_F) : CV E yX7_drift cX7_drift 3 (some .int) 5 1 6 tr_X7_drift := ⟨ct_X7_drift E, by decide, kw_695, kw_696, kw_527, kw_694, by decide +kernel, _, _, rfl⟩
theorem dX7_undo_0 : decode cX7_undo 0 = .ok (.aload_n 0, 1) := by decide +kernel
theorem dX7_undo_1 : decode cX7_undo 1 = .ok (.getfield 7, 3) := by decide +kernel
theorem dX7_undo_4 : decode cX7_undo 4 = .ok (.sipush 765, 3) := by decide +kernel
theorem dX7_undo_7 : decode cX7_undo 7 = .ok (.iaload, 1) := by decide +kernel
theorem dX7_undo_8 : decode cX7_undo 8 = .ok (.ifCond .ne 6, 3) := by decide +kernel
theorem dX7_undo_11 : decode cX7_undo 11 = .ok (.bipush (-4), 2) := by decide +kernel
theorem dX7_undo_13 : decode cX7_undo 13 = .ok (.ireturn, 1) := by decide +kernel
theorem dX7_undo_14 : decode cX7_undo 14 = .ok (.aload_n 0, 1) := by decide +kernel
theorem dX7_undo_15 : decode cX7_undo 15 = .ok (.getfield 7, 3) := by decide +kernel
theorem dX7_undo_18 : decode cX7_undo 18 = .ok (.sipush 765, 3) := by decide +kernel
theorem dX7_undo_21 : decode cX7_undo 21 = .ok (.dup2, 1) := by decide +kernel
theorem dX7_undo_22 : decode cX7_undo 22 = .ok (.iaload, 1) := by decide +kernel
theorem dX7_undo_23 : decode cX7_undo 23 = .ok (.iconst 1, 1) := by decide +kernel
theorem dX7_undo_24 : decode cX7_undo 24 = .ok (.isub, 1) := by decide +kernel
theorem dX7_undo_25 : decode cX7_undo 25 = .ok (.iastore, 1) := by decide +kernel
theorem dX7_undo_26 : decode cX7_undo 26 = .ok (.aload_n 0, 1) := by decide +kernel
theorem dX7_undo_27 : decode cX7_undo 27 = .ok (.bipush 85, 2) := by decide +kernel
theorem dX7_undo_29 : decode cX7_undo 29 = .ok (.bipush 85, 2) := by decide +kernel
theorem dX7_undo_31 : decode cX7_undo 31 = .ok (.aload_n 0, 1) := by decide +kernel
theorem dX7_undo_32 : decode cX7_undo 32 = .ok (.getfield 7, 3) := by decide +kernel
theorem dX7_undo_35 : decode cX7_undo 35 = .ok (.sipush 765, 3) := by decide +kernel
theorem dX7_undo_38 : decode cX7_undo 38 = .ok (.iaload, 1) := by decide +kernel
theorem dX7_undo_39 : decode cX7_undo 39 = .ok (.imul, 1) := by decide +kernel
theorem dX7_undo_40 : decode cX7_undo 40 = .ok (.iadd, 1) := by decide +kernel
theorem dX7_undo_41 : decode cX7_undo 41 = .ok (.iconst 0, 1) := by decide +kernel
theorem dX7_undo_42 : decode cX7_undo 42 = .ok (.bipush 85, 2) := by decide +kernel
theorem dX7_undo_44 : decode cX7_undo 44 = .ok (.invokevirtual 140, 3) := by decide +kernel
theorem dX7_undo_47 : decode cX7_undo 47 = .ok (.aload_n 0, 1) := by decide +kernel
theorem dX7_undo_48 : decode cX7_undo 48 = .ok (.getfield 7, 3) := by decide +kernel
theorem dX7_undo_51 : decode cX7_undo 51 = .ok (.sipush 765, 3) := by decide +kernel
theorem dX7_undo_54 : decode cX7_undo 54 = .ok (.iaload, 1) := by decide +kernel
theorem dX7_undo_55 : decode cX7_undo 55 = .ok (.ireturn, 1) := by decide +kernel
def sm_X7_undo_0  (Q : aw_R) (p0 : Nat) (h : aw_H) : Prop :=
  sg_R h p0 6 0 fun q1 => sa_I h q1 765 fun v2 => if ¬ v2 = 0 then (sg_R h p0 6 0 fun q3 => sa_I h q3 765 fun v4 => ss_I h q3 765 (v4 - 1) fun h5 => sg_R h5 p0 6 0 fun q6 => sa_I h5 q6 765 fun v7 => sv_O h5 p0 6 (tr_X7_copyRow [.ref p0, .int (85 + (85 * v7)), .int 0, .int 85] h5 fun r9 h8 => sr_V r9 <| sg_R h8 p0 6 0 fun q10 => sa_I h8 q10 765 fun v11 => Q (some (.int v11)) h8)) else (Q (some (.int ((-4)))) h)
set_option maxRecDepth 100000 in
set_option maxHeartbeats 4000000 in
theorem bl_X7_undo_0 {X : aw_X} {Q : aw_R} (C : aw_C X cX7_undo RX7 1 1) (Z : aw_Z X cX7_undo (some .int) Q) (p0 : Nat) (h : aw_H) (hh : sm_X7_undo_0  Q p0 h) : Sat X 0 [.ref p0] [] h := by
  unfold sm_X7_undo_0 at hh
  refine ow_aload_n C dX7_undo_0 rfl rfl ?_
  refine ow_getR (ci := 6) (k := 0) (T := TX7) C rfl igX7 (by decide) kw_533 dX7_undo_1 hh (fun q1 hh => ?_)
  refine ow_sipush (v := 765) C dX7_undo_4 rfl ?_
  refine ow_iaload C dX7_undo_7 hh (fun v2 hh => ?_)
  refine ow_if_ne (tgt := 14) C dX7_undo_8 (by decide) hh (fun hh => ?_) (fun hh => ?_)
  · skip
    refine ow_aload_n C dX7_undo_14 rfl rfl ?_
    refine ow_getR (ci := 6) (k := 0) (T := TX7) C rfl igX7 (by decide) kw_533 dX7_undo_15 hh (fun q3 hh => ?_)
    refine ow_sipush (v := 765) C dX7_undo_18 rfl ?_
    refine ow_dup2 C dX7_undo_21 rfl rfl ?_
    refine ow_iaload C dX7_undo_22 hh (fun v4 hh => ?_)
    refine ow_iconst (v := 1) C dX7_undo_23 rfl ?_
    refine ow_isub C dX7_undo_24 ?_
    refine ow_iastore C dX7_undo_25 hh (fun h5 hh => ?_)
    refine ow_aload_n C dX7_undo_26 rfl rfl ?_
    refine ow_bipush (v := 85) C dX7_undo_27 rfl ?_
    refine ow_bipush (v := 85) C dX7_undo_29 rfl ?_
    refine ow_aload_n C dX7_undo_31 rfl rfl ?_
    refine ow_getR (ci := 6) (k := 0) (T := TX7) C rfl igX7 (by decide) kw_533 dX7_undo_32 hh (fun q6 hh => ?_)
    refine ow_sipush (v := 765) C dX7_undo_35 rfl ?_
    refine ow_iaload C dX7_undo_38 hh (fun v7 hh => ?_)
    refine ow_imul C dX7_undo_39 ?_
    refine ow_iadd C dX7_undo_40 ?_
    refine ow_iconst (v := 0) C dX7_undo_41 rfl ?_
    refine ow_bipush (v := 85) C dX7_undo_42 rfl ?_
    refine ow_callV C (cv_X7_copyRow _) (Nat.le_of_ble_eq_true rfl) kw_652 dX7_undo_44 (as := [.int (85 + (85 * v7)), .int 0, .int 85]) (st := []) rfl rfl (Nat.le_of_ble_eq_true rfl) hh (fun r9 h8 hq => ?_)
    obtain ⟨rfl, hh⟩ := sr_V_e hq
    show Sat X 47 [.ref p0] [] h8
    refine ow_aload_n C dX7_undo_47 rfl rfl ?_
    refine ow_getR (ci := 6) (k := 0) (T := TX7) C rfl igX7 (by decide) kw_533 dX7_undo_48 hh (fun q10 hh => ?_)
    refine ow_sipush (v := 765) C dX7_undo_51 rfl ?_
    refine ow_iaload C dX7_undo_54 hh (fun v11 hh => ?_)
    exact ow_iret Z dX7_undo_55 trivial hh
  · skip
    refine ow_bipush (v := (-4)) C dX7_undo_11 rfl ?_
    exact ow_iret Z dX7_undo_13 trivial hh
def tr_X7_undo : aw_T := fun as h Q => ∃ (p0 : Nat), as = [.ref p0] ∧ (sm_X7_undo_0  Q p0 h)
theorem tq_X7_undo {p0 : Nat} {h : aw_H} {Q : aw_R} : tr_X7_undo [.ref p0] h Q ↔ (sm_X7_undo_0  Q p0 h) := by
  constructor
  · rintro ⟨_, as0, hh⟩
    cases as0
    exact hh
  · intro hh
    exact ⟨_, rfl, hh⟩
theorem ct_X7_undo (E : aw_F) : CT E yX7_undo cX7_undo 1 (some .int) 1 tr_X7_undo := by
  refine ct_of (by decide) ?_
  intro X Q as h hE C Z hG
  subst hE
  obtain ⟨p0, rfl, hh⟩ := hG
  refine ⟨[.ref p0], rfl, Nat.le_of_ble_eq_true rfl, ?_⟩
  exact bl_X7_undo_0 C Z p0 h hh
theorem cv_X7_undo (E : aw_F) : CV E yX7_undo cX7_undo 1 (some .int) 1 0 6 tr_X7_undo := ⟨ct_X7_undo E, by decide, kw_698, kw_699, kw_527, kw_697, by decide +kernel, _, _, rfl⟩
theorem dX7_seed_0 : decode cX7_seed 0 = .ok (.iload_n 1, 1) := by decide +kernel
theorem dX7_seed_1 : decode cX7_seed 1 = .ok (.ifCond .ge 5, 3) := by decide +kernel
theorem dX7_seed_4 : decode cX7_seed 4 = .ok (.iconst (-1), 1) := by decide +kernel
theorem dX7_seed_5 : decode cX7_seed 5 = .ok (.ireturn, 1) := by decide +kernel
theorem dX7_seed_6 : decode cX7_seed 6 = .ok (.aload_n 0, 1) := by decide +kernel
theorem dX7_seed_7 : decode cX7_seed 7 = .ok (.getfield 7, 3) := by decide +kernel
theorem dX7_seed_10 : decode cX7_seed 10 = .ok (.iconst 4, 1) := by decide +kernel
theorem dX7_seed_11 : decode cX7_seed 11 = .ok (.iaload, 1) := by decide +kernel
theorem dX7_seed_12 : decode cX7_seed 12 = .ok (.istore_n 2, 1) := by decide +kernel
theorem dX7_seed_13 : decode cX7_seed 13 = .ok (.aload_n 0, 1) := by decide +kernel
theorem dX7_seed_14 : decode cX7_seed 14 = .ok (.getfield 7, 3) := by decide +kernel
theorem dX7_seed_17 : decode cX7_seed 17 = .ok (.iconst 4, 1) := by decide +kernel
theorem dX7_seed_18 : decode cX7_seed 18 = .ok (.iload_n 1, 1) := by decide +kernel
theorem dX7_seed_19 : decode cX7_seed 19 = .ok (.iastore, 1) := by decide +kernel
theorem dX7_seed_20 : decode cX7_seed 20 = .ok (.iload_n 2, 1) := by decide +kernel
theorem dX7_seed_21 : decode cX7_seed 21 = .ok (.ireturn, 1) := by decide +kernel
def sm_X7_seed_0  (Q : aw_R) (p0 : Nat) (x1 : Int32) (h : aw_H) : Prop :=
  if 0 ≤ x1 then (sg_R h p0 6 0 fun q1 => sa_I h q1 4 fun v2 => sg_R h p0 6 0 fun q3 => ss_I h q3 4 x1 fun h4 => Q (some (.int v2)) h4) else (Q (some (.int ((-1)))) h)
set_option maxRecDepth 100000 in
set_option maxHeartbeats 4000000 in
theorem bl_X7_seed_0 {X : aw_X} {Q : aw_R} (C : aw_C X cX7_seed RX7 3 0) (Z : aw_Z X cX7_seed (some .int) Q) (p0 : Nat) (x1 : Int32) (h : aw_H) (hh : sm_X7_seed_0  Q p0 x1 h) : Sat X 0 [.ref p0, .int x1, Value.null] [] h := by
  unfold sm_X7_seed_0 at hh
  refine ow_iload_n C dX7_seed_0 rfl rfl ?_
  refine ow_if_ge (tgt := 6) C dX7_seed_1 (by decide) hh (fun hh => ?_) (fun hh => ?_)
  · skip
    refine ow_aload_n C dX7_seed_6 rfl rfl ?_
    refine ow_getR (ci := 6) (k := 0) (T := TX7) C rfl igX7 (by decide) kw_533 dX7_seed_7 hh (fun q1 hh => ?_)
    refine ow_iconst (v := 4) C dX7_seed_10 rfl ?_
    refine ow_iaload C dX7_seed_11 hh (fun v2 hh => ?_)
    refine ow_istore_n (L' := [.ref p0, .int x1, .int v2]) C dX7_seed_12 rfl (by decide) rfl ?_
    refine ow_aload_n C dX7_seed_13 rfl rfl ?_
    refine ow_getR (ci := 6) (k := 0) (T := TX7) C rfl igX7 (by decide) kw_533 dX7_seed_14 hh (fun q3 hh => ?_)
    refine ow_iconst (v := 4) C dX7_seed_17 rfl ?_
    refine ow_iload_n C dX7_seed_18 rfl rfl ?_
    refine ow_iastore C dX7_seed_19 hh (fun h4 hh => ?_)
    refine ow_iload_n C dX7_seed_20 rfl rfl ?_
    exact ow_iret Z dX7_seed_21 trivial hh
  · skip
    refine ow_iconst (v := (-1)) C dX7_seed_4 rfl ?_
    exact ow_iret Z dX7_seed_5 trivial hh
def tr_X7_seed : aw_T := fun as h Q => ∃ (p0 : Nat) (x1 : Int32), as = [.ref p0, .int x1] ∧ (sm_X7_seed_0  Q p0 x1 h)
theorem tq_X7_seed {p0 : Nat} {x1 : Int32} {h : aw_H} {Q : aw_R} : tr_X7_seed [.ref p0, .int x1] h Q ↔ (sm_X7_seed_0  Q p0 x1 h) := by
  constructor
  · rintro ⟨_, _, as0, hh⟩
    cases as0
    exact hh
  · intro hh
    exact ⟨_, _, rfl, hh⟩
theorem ct_X7_seed (E : aw_F) : CT E yX7_seed cX7_seed 3 (some .int) 0 tr_X7_seed := by
  refine ct_of (by decide) ?_
  intro X Q as h hE C Z hG
  subst hE
  obtain ⟨p0, x1, rfl, hh⟩ := hG
  refine ⟨[.ref p0, .int x1, Value.null], rfl, Nat.le_of_ble_eq_true rfl, ?_⟩
  exact bl_X7_seed_0 C Z p0 x1 h hh
theorem cv_X7_seed (E : aw_F) : CV E yX7_seed cX7_seed 3 (some .int) 0 1 6 tr_X7_seed := ⟨ct_X7_seed E, by decide, kw_701, kw_702, kw_527, kw_700, by decide +kernel, _, _, rfl⟩
theorem dX7_runIn_0 : decode cX7_runIn 0 = .ok (.iload_n 2, 1) := by decide +kernel
theorem dX7_runIn_1 : decode cX7_runIn 1 = .ok (.istore_n 3, 1) := by decide +kernel
theorem dX7_runIn_2 : decode cX7_runIn 2 = .ok (.iconst 0, 1) := by decide +kernel
theorem dX7_runIn_3 : decode cX7_runIn 3 = .ok (.istore 4, 2) := by decide +kernel
theorem dX7_runIn_5 : decode cX7_runIn 5 = .ok (.iload 4, 2) := by decide +kernel
theorem dX7_runIn_7 : decode cX7_runIn 7 = .ok (.aload_n 0, 1) := by decide +kernel
theorem dX7_runIn_8 : decode cX7_runIn 8 = .ok (.getfield 7, 3) := by decide +kernel
theorem dX7_runIn_11 : decode cX7_runIn 11 = .ok (.iconst 1, 1) := by decide +kernel
theorem dX7_runIn_12 : decode cX7_runIn 12 = .ok (.iaload, 1) := by decide +kernel
theorem dX7_runIn_13 : decode cX7_runIn 13 = .ok (.if_icmp .ge 18, 3) := by decide +kernel
theorem dX7_runIn_16 : decode cX7_runIn 16 = .ok (.aload_n 0, 1) := by decide +kernel
theorem dX7_runIn_17 : decode cX7_runIn 17 = .ok (.iload_n 1, 1) := by decide +kernel
theorem dX7_runIn_18 : decode cX7_runIn 18 = .ok (.iload 4, 2) := by decide +kernel
theorem dX7_runIn_20 : decode cX7_runIn 20 = .ok (.iload_n 3, 1) := by decide +kernel
theorem dX7_runIn_21 : decode cX7_runIn 21 = .ok (.invokevirtual 83, 3) := by decide +kernel
theorem dX7_runIn_24 : decode cX7_runIn 24 = .ok (.istore_n 3, 1) := by decide +kernel
theorem dX7_runIn_25 : decode cX7_runIn 25 = .ok (.iinc 4 1, 3) := by decide +kernel
theorem dX7_runIn_28 : decode cX7_runIn 28 = .ok (.goto (-23), 3) := by decide +kernel
theorem dX7_runIn_31 : decode cX7_runIn 31 = .ok (.iload_n 3, 1) := by decide +kernel
theorem dX7_runIn_32 : decode cX7_runIn 32 = .ok (.ireturn, 1) := by decide +kernel
def sm_X7_runIn_5 (K5 : Nat → Int32 → Int32 → Int32 → aw_H → Prop) (Q : aw_R) (p0 : Nat) (x1 : Int32) (x3 : Int32) (x4 : Int32) (h : aw_H) : Prop :=
  sg_R h p0 6 0 fun q1 => sa_I h q1 1 fun v2 => if v2 ≤ x4 then (Q (some (.int x3)) h) else (sv_O h p0 6 (tr_X7_doneIn [.ref p0, .int x1, .int x4, .int x3] h fun r4 h3 => sr_I r4 fun v5 => K5 p0 x1 v5 (x4 + 1) h3))
set_option maxRecDepth 100000 in
set_option maxHeartbeats 4000000 in
theorem bl_X7_runIn_5 {X : aw_X} {Q : aw_R} (C : aw_C X cX7_runIn RX7 5 4) (Z : aw_Z X cX7_runIn (some .int) Q) (p0 : Nat) (x1 : Int32) (x3 : Int32) (x4 : Int32) (h : aw_H) (hh : sm_X7_runIn_5 (fun (p0 : Nat) (x1 : Int32) (x3 : Int32) (x4 : Int32) (h : aw_H) => Sat X 5 [.ref p0, .int x1, Value.null, .int x3, .int x4] [] h) Q p0 x1 x3 x4 h) : Sat X 5 [.ref p0, .int x1, Value.null, .int x3, .int x4] [] h := by
  unfold sm_X7_runIn_5 at hh
  refine ow_iload C dX7_runIn_5 rfl ?_
  refine ow_aload_n C dX7_runIn_7 rfl rfl ?_
  refine ow_getR (ci := 6) (k := 0) (T := TX7) C rfl igX7 (by decide) kw_533 dX7_runIn_8 hh (fun q1 hh => ?_)
  refine ow_iconst (v := 1) C dX7_runIn_11 rfl ?_
  refine ow_iaload C dX7_runIn_12 hh (fun v2 hh => ?_)
  refine ow_icmp_ge (tgt := 31) C dX7_runIn_13 (by decide) hh (fun hh => ?_) (fun hh => ?_)
  · skip
    refine ow_iload_n C dX7_runIn_31 rfl rfl ?_
    exact ow_iret Z dX7_runIn_32 trivial hh
  · skip
    refine ow_aload_n C dX7_runIn_16 rfl rfl ?_
    refine ow_iload_n C dX7_runIn_17 rfl rfl ?_
    refine ow_iload C dX7_runIn_18 rfl ?_
    refine ow_iload_n C dX7_runIn_20 rfl rfl ?_
    refine ow_callV C (cv_X7_doneIn _) (Nat.le_of_ble_eq_true rfl) kw_587 dX7_runIn_21 (as := [.int x1, .int x4, .int x3]) (st := []) rfl rfl (Nat.le_of_ble_eq_true rfl) hh (fun r4 h3 hq => ?_)
    obtain ⟨v5, rfl, hh⟩ := sr_I_e hq
    show Sat X 24 [.ref p0, .int x1, Value.null, .int x3, .int x4] [.int v5] h3
    refine ow_istore_n (L' := [.ref p0, .int x1, Value.null, .int v5, .int x4]) C dX7_runIn_24 rfl (by decide) rfl ?_
    refine ow_iinc (v := x4 + 1) (L' := [.ref p0, .int x1, Value.null, .int v5, .int (x4 + 1)]) C dX7_runIn_25 rfl rfl (by decide) rfl ?_
    refine ow_goto (tgt := 5) C dX7_runIn_28 (by decide) ?_
    exact Sat.mask hh (mk_y (mk_y (mk_n (mk_y (mk_y mk_0)))))
def sm_X7_runIn_0 (K5 : Nat → Int32 → Int32 → Int32 → aw_H → Prop) (Q : aw_R) (p0 : Nat) (x1 : Int32) (x2 : Int32) (h : aw_H) : Prop :=
  K5 p0 x1 x2 0 h
set_option maxRecDepth 100000 in
set_option maxHeartbeats 4000000 in
theorem bl_X7_runIn_0 {X : aw_X} {Q : aw_R} (C : aw_C X cX7_runIn RX7 5 4) (Z : aw_Z X cX7_runIn (some .int) Q) (p0 : Nat) (x1 : Int32) (x2 : Int32) (h : aw_H) (hh : sm_X7_runIn_0 (fun (p0 : Nat) (x1 : Int32) (x3 : Int32) (x4 : Int32) (h : aw_H) => Sat X 5 [.ref p0, .int x1, Value.null, .int x3, .int x4] [] h) Q p0 x1 x2 h) : Sat X 0 [.ref p0, .int x1, .int x2, Value.null, Value.null] [] h := by
  unfold sm_X7_runIn_0 at hh
  refine ow_iload_n C dX7_runIn_0 rfl rfl ?_
  refine ow_istore_n (L' := [.ref p0, .int x1, .int x2, .int x2, Value.null]) C dX7_runIn_1 rfl (by decide) rfl ?_
  refine ow_iconst (v := 0) C dX7_runIn_2 rfl ?_
  refine ow_istore (L' := [.ref p0, .int x1, .int x2, .int x2, .int 0]) C dX7_runIn_3 (by decide) rfl ?_
  exact Sat.mask hh (mk_y (mk_y (mk_n (mk_y (mk_y mk_0)))))
def tr_X7_runIn : aw_T := fun as h Q => ∃ (p0 : Nat) (x1 : Int32) (x2 : Int32), as = [.ref p0, .int x1, .int x2] ∧ (∀ (K5 : Nat → Int32 → Int32 → Int32 → aw_H → Prop), (∀ (p0 : Nat) (x1 : Int32) (x3 : Int32) (x4 : Int32) (h : aw_H), sm_X7_runIn_5 K5 Q p0 x1 x3 x4 h → K5 p0 x1 x3 x4 h) → sm_X7_runIn_0 K5 Q p0 x1 x2 h)
theorem tq_X7_runIn {p0 : Nat} {x1 : Int32} {x2 : Int32} {h : aw_H} {Q : aw_R} : tr_X7_runIn [.ref p0, .int x1, .int x2] h Q ↔ (∀ (K5 : Nat → Int32 → Int32 → Int32 → aw_H → Prop), (∀ (p0 : Nat) (x1 : Int32) (x3 : Int32) (x4 : Int32) (h : aw_H), sm_X7_runIn_5 K5 Q p0 x1 x3 x4 h → K5 p0 x1 x3 x4 h) → sm_X7_runIn_0 K5 Q p0 x1 x2 h) := by
  constructor
  · rintro ⟨_, _, _, as0, hh⟩
    cases as0
    exact hh
  · intro hh
    exact ⟨_, _, _, rfl, hh⟩
theorem ct_X7_runIn (E : aw_F) : CT E yX7_runIn cX7_runIn 5 (some .int) 4 tr_X7_runIn := by
  refine ct_of (by decide) ?_
  intro X Q as h hE C Z hG
  subst hE
  obtain ⟨p0, x1, x2, rfl, hh⟩ := hG
  refine ⟨[.ref p0, .int x1, .int x2, Value.null, Value.null], rfl, Nat.le_of_ble_eq_true rfl, ?_⟩
  exact bl_X7_runIn_0 C Z p0 x1 x2 h (hh (fun (p0 : Nat) (x1 : Int32) (x3 : Int32) (x4 : Int32) (h : aw_H) => Sat X 5 [.ref p0, .int x1, Value.null, .int x3, .int x4] [] h) (fun p0 x1 x3 x4 h hh => bl_X7_runIn_5 C Z p0 x1 x3 x4 h hh))
theorem cv_X7_runIn (E : aw_F) : CV E yX7_runIn cX7_runIn 5 (some .int) 4 2 6 tr_X7_runIn := ⟨ct_X7_runIn E, by decide, kw_704, kw_705, kw_527, kw_703, by decide +kernel, _, _, rfl⟩
theorem dX7_layRuns_0 : decode cX7_layRuns 0 = .ok (.iconst 0, 1) := by decide +kernel
theorem dX7_layRuns_1 : decode cX7_layRuns 1 = .ok (.istore_n 1, 1) := by decide +kernel
theorem dX7_layRuns_2 : decode cX7_layRuns 2 = .ok (.iload_n 1, 1) := by decide +kernel
theorem dX7_layRuns_3 : decode cX7_layRuns 3 = .ok (.aload_n 0, 1) := by decide +kernel
theorem dX7_layRuns_4 : decode cX7_layRuns 4 = .ok (.invokevirtual 38, 3) := by decide +kernel
theorem dX7_layRuns_7 : decode cX7_layRuns 7 = .ok (.if_icmp .ge 21, 3) := by decide +kernel
theorem dX7_layRuns_10 : decode cX7_layRuns 10 = .ok (.aload_n 0, 1) := by decide +kernel
theorem dX7_layRuns_11 : decode cX7_layRuns 11 = .ok (.getfield 26, 3) := by decide +kernel
theorem dX7_layRuns_14 : decode cX7_layRuns 14 = .ok (.iload_n 1, 1) := by decide +kernel
theorem dX7_layRuns_15 : decode cX7_layRuns 15 = .ok (.aload_n 0, 1) := by decide +kernel
theorem dX7_layRuns_16 : decode cX7_layRuns 16 = .ok (.iconst 0, 1) := by decide +kernel
theorem dX7_layRuns_17 : decode cX7_layRuns 17 = .ok (.iload_n 1, 1) := by decide +kernel
theorem dX7_layRuns_18 : decode cX7_layRuns 18 = .ok (.invokevirtual 163, 3) := by decide +kernel
theorem dX7_layRuns_21 : decode cX7_layRuns 21 = .ok (.iastore, 1) := by decide +kernel
theorem dX7_layRuns_22 : decode cX7_layRuns 22 = .ok (.iinc 1 1, 3) := by decide +kernel
theorem dX7_layRuns_25 : decode cX7_layRuns 25 = .ok (.goto (-23), 3) := by decide +kernel
theorem dX7_layRuns_28 : decode cX7_layRuns 28 = .ok (.return_, 1) := by decide +kernel
def sm_X7_layRuns_2 (K2 : Nat → Int32 → aw_H → Prop) (Q : aw_R) (p0 : Nat) (x1 : Int32) (h : aw_H) : Prop :=
  sv_O h p0 6 (tr_X7_states [.ref p0] h fun r2 h1 => sr_I r2 fun v3 => if v3 ≤ x1 then (Q none h1) else (sg_R h1 p0 6 7 fun q4 => sv_O h1 p0 6 (tr_X7_runIn [.ref p0, .int 0, .int x1] h1 fun r6 h5 => sr_I r6 fun v7 => ss_I h5 q4 x1 v7 fun h8 => K2 p0 (x1 + 1) h8)))
set_option maxRecDepth 100000 in
set_option maxHeartbeats 4000000 in
theorem bl_X7_layRuns_2 {X : aw_X} {Q : aw_R} (C : aw_C X cX7_layRuns RX7 2 5) (Z : aw_Z X cX7_layRuns none Q) (p0 : Nat) (x1 : Int32) (h : aw_H) (hh : sm_X7_layRuns_2 (fun (p0 : Nat) (x1 : Int32) (h : aw_H) => Sat X 2 [.ref p0, .int x1] [] h) Q p0 x1 h) : Sat X 2 [.ref p0, .int x1] [] h := by
  unfold sm_X7_layRuns_2 at hh
  refine ow_iload_n C dX7_layRuns_2 rfl rfl ?_
  refine ow_aload_n C dX7_layRuns_3 rfl rfl ?_
  refine ow_callV C (cv_X7_states _) (Nat.le_of_ble_eq_true rfl) kw_540 dX7_layRuns_4 (as := []) (st := [.int x1]) rfl rfl (Nat.le_of_ble_eq_true rfl) hh (fun r2 h1 hq => ?_)
  obtain ⟨v3, rfl, hh⟩ := sr_I_e hq
  show Sat X 7 [.ref p0, .int x1] [.int v3, .int x1] h1
  refine ow_icmp_ge (tgt := 28) C dX7_layRuns_7 (by decide) hh (fun hh => ?_) (fun hh => ?_)
  · skip
    exact ow_vret Z dX7_layRuns_28 trivial hh
  · skip
    refine ow_aload_n C dX7_layRuns_10 rfl rfl ?_
    refine ow_getR (ci := 6) (k := 7) (T := TX7) C rfl igX7 (by decide) kw_706 dX7_layRuns_11 hh (fun q4 hh => ?_)
    refine ow_iload_n C dX7_layRuns_14 rfl rfl ?_
    refine ow_aload_n C dX7_layRuns_15 rfl rfl ?_
    refine ow_iconst (v := 0) C dX7_layRuns_16 rfl ?_
    refine ow_iload_n C dX7_layRuns_17 rfl rfl ?_
    refine ow_callV C (cv_X7_runIn _) (Nat.le_of_ble_eq_true rfl) kw_707 dX7_layRuns_18 (as := [.int 0, .int x1]) (st := [.int x1, .ref q4]) rfl rfl (Nat.le_of_ble_eq_true rfl) hh (fun r6 h5 hq => ?_)
    obtain ⟨v7, rfl, hh⟩ := sr_I_e hq
    show Sat X 21 [.ref p0, .int x1] [.int v7, .int x1, .ref q4] h5
    refine ow_iastore C dX7_layRuns_21 hh (fun h8 hh => ?_)
    refine ow_iinc (v := x1 + 1) (L' := [.ref p0, .int (x1 + 1)]) C dX7_layRuns_22 rfl rfl (by decide) rfl ?_
    refine ow_goto (tgt := 2) C dX7_layRuns_25 (by decide) ?_
    exact Sat.mask hh (mk_y (mk_y mk_0))
def sm_X7_layRuns_0 (K2 : Nat → Int32 → aw_H → Prop) (Q : aw_R) (p0 : Nat) (h : aw_H) : Prop :=
  K2 p0 0 h
set_option maxRecDepth 100000 in
set_option maxHeartbeats 4000000 in
theorem bl_X7_layRuns_0 {X : aw_X} {Q : aw_R} (C : aw_C X cX7_layRuns RX7 2 5) (Z : aw_Z X cX7_layRuns none Q) (p0 : Nat) (h : aw_H) (hh : sm_X7_layRuns_0 (fun (p0 : Nat) (x1 : Int32) (h : aw_H) => Sat X 2 [.ref p0, .int x1] [] h) Q p0 h) : Sat X 0 [.ref p0, Value.null] [] h := by
  unfold sm_X7_layRuns_0 at hh
  refine ow_iconst (v := 0) C dX7_layRuns_0 rfl ?_
  refine ow_istore_n (L' := [.ref p0, .int 0]) C dX7_layRuns_1 rfl (by decide) rfl ?_
  exact Sat.mask hh (mk_y (mk_y mk_0))
def tr_X7_layRuns : aw_T := fun as h Q => ∃ (p0 : Nat), as = [.ref p0] ∧ (∀ (K2 : Nat → Int32 → aw_H → Prop), (∀ (p0 : Nat) (x1 : Int32) (h : aw_H), sm_X7_layRuns_2 K2 Q p0 x1 h → K2 p0 x1 h) → sm_X7_layRuns_0 K2 Q p0 h)
theorem tq_X7_layRuns {p0 : Nat} {h : aw_H} {Q : aw_R} : tr_X7_layRuns [.ref p0] h Q ↔ (∀ (K2 : Nat → Int32 → aw_H → Prop), (∀ (p0 : Nat) (x1 : Int32) (h : aw_H), sm_X7_layRuns_2 K2 Q p0 x1 h → K2 p0 x1 h) → sm_X7_layRuns_0 K2 Q p0 h) := by
  constructor
  · rintro ⟨_, as0, hh⟩
    cases as0
    exact hh
  · intro hh
    exact ⟨_, rfl, hh⟩
theorem ct_X7_layRuns (E : aw_F) : CT E yX7_layRuns cX7_layRuns 2 none 5 tr_X7_layRuns := by
  refine ct_of (by decide) ?_
  intro X Q as h hE C Z hG
  subst hE
  obtain ⟨p0, rfl, hh⟩ := hG
  refine ⟨[.ref p0, Value.null], rfl, Nat.le_of_ble_eq_true rfl, ?_⟩
  exact bl_X7_layRuns_0 C Z p0 h (hh (fun (p0 : Nat) (x1 : Int32) (h : aw_H) => Sat X 2 [.ref p0, .int x1] [] h) (fun p0 x1 h hh => bl_X7_layRuns_2 C Z p0 x1 h hh))
theorem cv_X7_layRuns (E : aw_F) : CV E yX7_layRuns cX7_layRuns 2 none 5 0 6 tr_X7_layRuns := ⟨ct_X7_layRuns E, by decide, kw_709, kw_710, kw_527, kw_708, by decide +kernel, _, _, rfl⟩
theorem dX7_goes_0 : decode cX7_goes 0 = .ok (.aload_n 0, 1) := by decide +kernel
theorem dX7_goes_1 : decode cX7_goes 1 = .ok (.iload_n 1, 1) := by decide +kernel
theorem dX7_goes_2 : decode cX7_goes 2 = .ok (.invokevirtual 80, 3) := by decide +kernel
theorem dX7_goes_5 : decode cX7_goes 5 = .ok (.ifCond .eq 12, 3) := by decide +kernel
theorem dX7_goes_8 : decode cX7_goes 8 = .ok (.iload_n 2, 1) := by decide +kernel
theorem dX7_goes_9 : decode cX7_goes 9 = .ok (.iconst 0, 1) := by decide +kernel
theorem dX7_goes_10 : decode cX7_goes 10 = .ok (.iconst 1, 1) := by decide +kernel
theorem dX7_goes_11 : decode cX7_goes 11 = .ok (.invokestatic 42, 3) := by decide +kernel
theorem dX7_goes_14 : decode cX7_goes 14 = .ok (.ifCond .ne 5, 3) := by decide +kernel
theorem dX7_goes_17 : decode cX7_goes 17 = .ok (.iconst (-1), 1) := by decide +kernel
theorem dX7_goes_18 : decode cX7_goes 18 = .ok (.ireturn, 1) := by decide +kernel
theorem dX7_goes_19 : decode cX7_goes 19 = .ok (.iload_n 2, 1) := by decide +kernel
theorem dX7_goes_20 : decode cX7_goes 20 = .ok (.ifCond .ne 10, 3) := by decide +kernel
theorem dX7_goes_23 : decode cX7_goes 23 = .ok (.aload_n 0, 1) := by decide +kernel
theorem dX7_goes_24 : decode cX7_goes 24 = .ok (.iconst 0, 1) := by decide +kernel
theorem dX7_goes_25 : decode cX7_goes 25 = .ok (.iload_n 1, 1) := by decide +kernel
theorem dX7_goes_26 : decode cX7_goes 26 = .ok (.invokevirtual 163, 3) := by decide +kernel
theorem dX7_goes_29 : decode cX7_goes 29 = .ok (.ireturn, 1) := by decide +kernel
theorem dX7_goes_30 : decode cX7_goes 30 = .ok (.iload_n 1, 1) := by decide +kernel
theorem dX7_goes_31 : decode cX7_goes 31 = .ok (.istore_n 3, 1) := by decide +kernel
theorem dX7_goes_32 : decode cX7_goes 32 = .ok (.aload_n 0, 1) := by decide +kernel
theorem dX7_goes_33 : decode cX7_goes 33 = .ok (.getfield 7, 3) := by decide +kernel
theorem dX7_goes_36 : decode cX7_goes 36 = .ok (.iconst 1, 1) := by decide +kernel
theorem dX7_goes_37 : decode cX7_goes 37 = .ok (.iaload, 1) := by decide +kernel
theorem dX7_goes_38 : decode cX7_goes 38 = .ok (.iconst 1, 1) := by decide +kernel
theorem dX7_goes_39 : decode cX7_goes 39 = .ok (.isub, 1) := by decide +kernel
theorem dX7_goes_40 : decode cX7_goes 40 = .ok (.istore 4, 2) := by decide +kernel
theorem dX7_goes_42 : decode cX7_goes 42 = .ok (.iload 4, 2) := by decide +kernel
theorem dX7_goes_44 : decode cX7_goes 44 = .ok (.ifCond .lt 18, 3) := by decide +kernel
theorem dX7_goes_47 : decode cX7_goes 47 = .ok (.aload_n 0, 1) := by decide +kernel
theorem dX7_goes_48 : decode cX7_goes 48 = .ok (.iconst 0, 1) := by decide +kernel
theorem dX7_goes_49 : decode cX7_goes 49 = .ok (.iload 4, 2) := by decide +kernel
theorem dX7_goes_51 : decode cX7_goes 51 = .ok (.iload_n 3, 1) := by decide +kernel
theorem dX7_goes_52 : decode cX7_goes 52 = .ok (.invokevirtual 83, 3) := by decide +kernel
theorem dX7_goes_55 : decode cX7_goes 55 = .ok (.istore_n 3, 1) := by decide +kernel
theorem dX7_goes_56 : decode cX7_goes 56 = .ok (.iinc 4 (-1), 3) := by decide +kernel
theorem dX7_goes_59 : decode cX7_goes 59 = .ok (.goto (-17), 3) := by decide +kernel
theorem dX7_goes_62 : decode cX7_goes 62 = .ok (.iload_n 3, 1) := by decide +kernel
theorem dX7_goes_63 : decode cX7_goes 63 = .ok (.ireturn, 1) := by decide +kernel
def sm_X7_goes_42 (K42 : Nat → Int32 → Int32 → aw_H → Prop) (Q : aw_R) (p0 : Nat) (x3 : Int32) (x4 : Int32) (h : aw_H) : Prop :=
  if x4 < 0 then (Q (some (.int x3)) h) else (sv_O h p0 6 (tr_X7_doneIn [.ref p0, .int 0, .int x4, .int x3] h fun r2 h1 => sr_I r2 fun v3 => K42 p0 v3 (x4 + (-1)) h1))
set_option maxRecDepth 100000 in
set_option maxHeartbeats 4000000 in
theorem bl_X7_goes_42 {X : aw_X} {Q : aw_R} (C : aw_C X cX7_goes RX7 5 5) (Z : aw_Z X cX7_goes (some .int) Q) (p0 : Nat) (x3 : Int32) (x4 : Int32) (h : aw_H) (hh : sm_X7_goes_42 (fun (p0 : Nat) (x3 : Int32) (x4 : Int32) (h : aw_H) => Sat X 42 [.ref p0, Value.null, Value.null, .int x3, .int x4] [] h) Q p0 x3 x4 h) : Sat X 42 [.ref p0, Value.null, Value.null, .int x3, .int x4] [] h := by
  unfold sm_X7_goes_42 at hh
  refine ow_iload C dX7_goes_42 rfl ?_
  refine ow_if_lt (tgt := 62) C dX7_goes_44 (by decide) hh (fun hh => ?_) (fun hh => ?_)
  · skip
    refine ow_iload_n C dX7_goes_62 rfl rfl ?_
    exact ow_iret Z dX7_goes_63 trivial hh
  · skip
    refine ow_aload_n C dX7_goes_47 rfl rfl ?_
    refine ow_iconst (v := 0) C dX7_goes_48 rfl ?_
    refine ow_iload C dX7_goes_49 rfl ?_
    refine ow_iload_n C dX7_goes_51 rfl rfl ?_
    refine ow_callV C (cv_X7_doneIn _) (Nat.le_of_ble_eq_true rfl) kw_587 dX7_goes_52 (as := [.int 0, .int x4, .int x3]) (st := []) rfl rfl (Nat.le_of_ble_eq_true rfl) hh (fun r2 h1 hq => ?_)
    obtain ⟨v3, rfl, hh⟩ := sr_I_e hq
    show Sat X 55 [.ref p0, Value.null, Value.null, .int x3, .int x4] [.int v3] h1
    refine ow_istore_n (L' := [.ref p0, Value.null, Value.null, .int v3, .int x4]) C dX7_goes_55 rfl (by decide) rfl ?_
    refine ow_iinc (v := x4 + (-1)) (L' := [.ref p0, Value.null, Value.null, .int v3, .int (x4 + (-1))]) C dX7_goes_56 rfl rfl (by decide) rfl ?_
    refine ow_goto (tgt := 42) C dX7_goes_59 (by decide) ?_
    exact Sat.mask hh (mk_y (mk_n (mk_n (mk_y (mk_y mk_0)))))
def sm_X7_goes_0 (K42 : Nat → Int32 → Int32 → aw_H → Prop) (Q : aw_R) (p0 : Nat) (x1 : Int32) (x2 : Int32) (h : aw_H) : Prop :=
  sv_O h p0 6 (tr_X7_isState [.ref p0, .int x1] h fun r2 h1 => sr_I r2 fun v3 => if v3 = 0 then (Q (some (.int ((-1)))) h1) else (tr_X7_in [.int x2, .int 0, .int 1] h1 fun r5 h4 => sr_I r5 fun v6 => if ¬ v6 = 0 then (if ¬ x2 = 0 then (sg_R h4 p0 6 0 fun q7 => sa_I h4 q7 1 fun v8 => K42 p0 x1 (v8 - 1) h4) else (sv_O h4 p0 6 (tr_X7_runIn [.ref p0, .int 0, .int x1] h4 fun r10 h9 => sr_I r10 fun v11 => Q (some (.int v11)) h9))) else (Q (some (.int ((-1)))) h4)))
set_option maxRecDepth 100000 in
set_option maxHeartbeats 4000000 in
theorem bl_X7_goes_0 {X : aw_X} {Q : aw_R} (C : aw_C X cX7_goes RX7 5 5) (Z : aw_Z X cX7_goes (some .int) Q) (p0 : Nat) (x1 : Int32) (x2 : Int32) (h : aw_H) (hh : sm_X7_goes_0 (fun (p0 : Nat) (x3 : Int32) (x4 : Int32) (h : aw_H) => Sat X 42 [.ref p0, Value.null, Value.null, .int x3, .int x4] [] h) Q p0 x1 x2 h) : Sat X 0 [.ref p0, .int x1, .int x2, Value.null, Value.null] [] h := by
  unfold sm_X7_goes_0 at hh
  refine ow_aload_n C dX7_goes_0 rfl rfl ?_
  refine ow_iload_n C dX7_goes_1 rfl rfl ?_
  refine ow_callV C (cv_X7_isState _) (Nat.le_of_ble_eq_true rfl) kw_586 dX7_goes_2 (as := [.int x1]) (st := []) rfl rfl (Nat.le_of_ble_eq_true rfl) hh (fun r2 h1 hq => ?_)
  obtain ⟨v3, rfl, hh⟩ := sr_I_e hq
  show Sat X 5 [.ref p0, .int x1, .int x2, Value.null, Value.null] [.int v3] h1
  refine ow_if_eq (tgt := 17) C dX7_goes_5 (by decide) hh (fun hh => ?_) (fun hh => ?_)
  · skip
    refine ow_iconst (v := (-1)) C dX7_goes_17 rfl ?_
    exact ow_iret Z dX7_goes_18 trivial hh
  · skip
    refine ow_iload_n C dX7_goes_8 rfl rfl ?_
    refine ow_iconst (v := 0) C dX7_goes_9 rfl ?_
    refine ow_iconst (v := 1) C dX7_goes_10 rfl ?_
    refine ow_callS C (cs_X7_in _) (Nat.le_of_ble_eq_true rfl) kw_541 dX7_goes_11 (as := [.int x2, .int 0, .int 1]) (st := []) rfl rfl (Nat.le_of_ble_eq_true rfl) hh (fun r5 h4 hq => ?_)
    obtain ⟨v6, rfl, hh⟩ := sr_I_e hq
    show Sat X 14 [.ref p0, .int x1, .int x2, Value.null, Value.null] [.int v6] h4
    refine ow_if_ne (tgt := 19) C dX7_goes_14 (by decide) hh (fun hh => ?_) (fun hh => ?_)
    · skip
      refine ow_iload_n C dX7_goes_19 rfl rfl ?_
      refine ow_if_ne (tgt := 30) C dX7_goes_20 (by decide) hh (fun hh => ?_) (fun hh => ?_)
      · skip
        refine ow_iload_n C dX7_goes_30 rfl rfl ?_
        refine ow_istore_n (L' := [.ref p0, .int x1, .int x2, .int x1, Value.null]) C dX7_goes_31 rfl (by decide) rfl ?_
        refine ow_aload_n C dX7_goes_32 rfl rfl ?_
        refine ow_getR (ci := 6) (k := 0) (T := TX7) C rfl igX7 (by decide) kw_533 dX7_goes_33 hh (fun q7 hh => ?_)
        refine ow_iconst (v := 1) C dX7_goes_36 rfl ?_
        refine ow_iaload C dX7_goes_37 hh (fun v8 hh => ?_)
        refine ow_iconst (v := 1) C dX7_goes_38 rfl ?_
        refine ow_isub C dX7_goes_39 ?_
        refine ow_istore (L' := [.ref p0, .int x1, .int x2, .int x1, .int (v8 - 1)]) C dX7_goes_40 (by decide) rfl ?_
        exact Sat.mask hh (mk_y (mk_n (mk_n (mk_y (mk_y mk_0)))))
      · skip
        refine ow_aload_n C dX7_goes_23 rfl rfl ?_
        refine ow_iconst (v := 0) C dX7_goes_24 rfl ?_
        refine ow_iload_n C dX7_goes_25 rfl rfl ?_
        refine ow_callV C (cv_X7_runIn _) (Nat.le_of_ble_eq_true rfl) kw_707 dX7_goes_26 (as := [.int 0, .int x1]) (st := []) rfl rfl (Nat.le_of_ble_eq_true rfl) hh (fun r10 h9 hq => ?_)
        obtain ⟨v11, rfl, hh⟩ := sr_I_e hq
        show Sat X 29 [.ref p0, .int x1, .int x2, Value.null, Value.null] [.int v11] h9
        exact ow_iret Z dX7_goes_29 trivial hh
    · skip
      refine ow_iconst (v := (-1)) C dX7_goes_17 rfl ?_
      exact ow_iret Z dX7_goes_18 trivial hh
def tr_X7_goes : aw_T := fun as h Q => ∃ (p0 : Nat) (x1 : Int32) (x2 : Int32), as = [.ref p0, .int x1, .int x2] ∧ (∀ (K42 : Nat → Int32 → Int32 → aw_H → Prop), (∀ (p0 : Nat) (x3 : Int32) (x4 : Int32) (h : aw_H), sm_X7_goes_42 K42 Q p0 x3 x4 h → K42 p0 x3 x4 h) → sm_X7_goes_0 K42 Q p0 x1 x2 h)
theorem tq_X7_goes {p0 : Nat} {x1 : Int32} {x2 : Int32} {h : aw_H} {Q : aw_R} : tr_X7_goes [.ref p0, .int x1, .int x2] h Q ↔ (∀ (K42 : Nat → Int32 → Int32 → aw_H → Prop), (∀ (p0 : Nat) (x3 : Int32) (x4 : Int32) (h : aw_H), sm_X7_goes_42 K42 Q p0 x3 x4 h → K42 p0 x3 x4 h) → sm_X7_goes_0 K42 Q p0 x1 x2 h) := by
  constructor
  · rintro ⟨_, _, _, as0, hh⟩
    cases as0
    exact hh
  · intro hh
    exact ⟨_, _, _, rfl, hh⟩
theorem ct_X7_goes (E : aw_F) : CT E yX7_goes cX7_goes 5 (some .int) 5 tr_X7_goes := by
  refine ct_of (by decide) ?_
  intro X Q as h hE C Z hG
  subst hE
  obtain ⟨p0, x1, x2, rfl, hh⟩ := hG
  refine ⟨[.ref p0, .int x1, .int x2, Value.null, Value.null], rfl, Nat.le_of_ble_eq_true rfl, ?_⟩
  exact bl_X7_goes_0 C Z p0 x1 x2 h (hh (fun (p0 : Nat) (x3 : Int32) (x4 : Int32) (h : aw_H) => Sat X 42 [.ref p0, Value.null, Value.null, .int x3, .int x4] [] h) (fun p0 x3 x4 h hh => bl_X7_goes_42 C Z p0 x3 x4 h hh))
theorem cv_X7_goes (E : aw_F) : CV E yX7_goes cX7_goes 5 (some .int) 5 2 6 tr_X7_goes := ⟨ct_X7_goes E, by decide, kw_712, kw_713, kw_527, kw_711, by decide +kernel, _, _, rfl⟩
theorem dX7_ringOf_0 : decode cX7_ringOf 0 = .ok (.iconst 1, 1) := by decide +kernel
theorem dX7_ringOf_1 : decode cX7_ringOf 1 = .ok (.istore_n 2, 1) := by decide +kernel
theorem dX7_ringOf_2 : decode cX7_ringOf 2 = .ok (.aload_n 0, 1) := by decide +kernel
theorem dX7_ringOf_3 : decode cX7_ringOf 3 = .ok (.getfield 26, 3) := by decide +kernel
theorem dX7_ringOf_6 : decode cX7_ringOf 6 = .ok (.iload_n 1, 1) := by decide +kernel
theorem dX7_ringOf_7 : decode cX7_ringOf 7 = .ok (.iaload, 1) := by decide +kernel
theorem dX7_ringOf_8 : decode cX7_ringOf 8 = .ok (.istore_n 3, 1) := by decide +kernel
theorem dX7_ringOf_9 : decode cX7_ringOf 9 = .ok (.iload_n 3, 1) := by decide +kernel
theorem dX7_ringOf_10 : decode cX7_ringOf 10 = .ok (.iload_n 1, 1) := by decide +kernel
theorem dX7_ringOf_11 : decode cX7_ringOf 11 = .ok (.if_icmp .eq 16, 3) := by decide +kernel
theorem dX7_ringOf_14 : decode cX7_ringOf 14 = .ok (.aload_n 0, 1) := by decide +kernel
theorem dX7_ringOf_15 : decode cX7_ringOf 15 = .ok (.getfield 26, 3) := by decide +kernel
theorem dX7_ringOf_18 : decode cX7_ringOf 18 = .ok (.iload_n 3, 1) := by decide +kernel
theorem dX7_ringOf_19 : decode cX7_ringOf 19 = .ok (.iaload, 1) := by decide +kernel
theorem dX7_ringOf_20 : decode cX7_ringOf 20 = .ok (.istore_n 3, 1) := by decide +kernel
theorem dX7_ringOf_21 : decode cX7_ringOf 21 = .ok (.iinc 2 1, 3) := by decide +kernel
theorem dX7_ringOf_24 : decode cX7_ringOf 24 = .ok (.goto (-15), 3) := by decide +kernel
theorem dX7_ringOf_27 : decode cX7_ringOf 27 = .ok (.iload_n 2, 1) := by decide +kernel
theorem dX7_ringOf_28 : decode cX7_ringOf 28 = .ok (.ireturn, 1) := by decide +kernel
def sm_X7_ringOf_9 (K9 : Nat → Int32 → Int32 → Int32 → aw_H → Prop) (Q : aw_R) (p0 : Nat) (x1 : Int32) (x2 : Int32) (x3 : Int32) (h : aw_H) : Prop :=
  if x3 = x1 then (Q (some (.int x2)) h) else (sg_R h p0 6 7 fun q1 => sa_I h q1 x3 fun v2 => K9 p0 x1 (x2 + 1) v2 h)
set_option maxRecDepth 100000 in
set_option maxHeartbeats 4000000 in
theorem bl_X7_ringOf_9 {X : aw_X} {Q : aw_R} (C : aw_C X cX7_ringOf RX7 4 0) (Z : aw_Z X cX7_ringOf (some .int) Q) (p0 : Nat) (x1 : Int32) (x2 : Int32) (x3 : Int32) (h : aw_H) (hh : sm_X7_ringOf_9 (fun (p0 : Nat) (x1 : Int32) (x2 : Int32) (x3 : Int32) (h : aw_H) => Sat X 9 [.ref p0, .int x1, .int x2, .int x3] [] h) Q p0 x1 x2 x3 h) : Sat X 9 [.ref p0, .int x1, .int x2, .int x3] [] h := by
  unfold sm_X7_ringOf_9 at hh
  refine ow_iload_n C dX7_ringOf_9 rfl rfl ?_
  refine ow_iload_n C dX7_ringOf_10 rfl rfl ?_
  refine ow_icmp_eq (tgt := 27) C dX7_ringOf_11 (by decide) hh (fun hh => ?_) (fun hh => ?_)
  · skip
    refine ow_iload_n C dX7_ringOf_27 rfl rfl ?_
    exact ow_iret Z dX7_ringOf_28 trivial hh
  · skip
    refine ow_aload_n C dX7_ringOf_14 rfl rfl ?_
    refine ow_getR (ci := 6) (k := 7) (T := TX7) C rfl igX7 (by decide) kw_706 dX7_ringOf_15 hh (fun q1 hh => ?_)
    refine ow_iload_n C dX7_ringOf_18 rfl rfl ?_
    refine ow_iaload C dX7_ringOf_19 hh (fun v2 hh => ?_)
    refine ow_istore_n (L' := [.ref p0, .int x1, .int x2, .int v2]) C dX7_ringOf_20 rfl (by decide) rfl ?_
    refine ow_iinc (v := x2 + 1) (L' := [.ref p0, .int x1, .int (x2 + 1), .int v2]) C dX7_ringOf_21 rfl rfl (by decide) rfl ?_
    refine ow_goto (tgt := 9) C dX7_ringOf_24 (by decide) ?_
    exact Sat.mask hh (mk_y (mk_y (mk_y (mk_y mk_0))))
def sm_X7_ringOf_0 (K9 : Nat → Int32 → Int32 → Int32 → aw_H → Prop) (Q : aw_R) (p0 : Nat) (x1 : Int32) (h : aw_H) : Prop :=
  sg_R h p0 6 7 fun q1 => sa_I h q1 x1 fun v2 => K9 p0 x1 1 v2 h
set_option maxRecDepth 100000 in
set_option maxHeartbeats 4000000 in
theorem bl_X7_ringOf_0 {X : aw_X} {Q : aw_R} (C : aw_C X cX7_ringOf RX7 4 0) (Z : aw_Z X cX7_ringOf (some .int) Q) (p0 : Nat) (x1 : Int32) (h : aw_H) (hh : sm_X7_ringOf_0 (fun (p0 : Nat) (x1 : Int32) (x2 : Int32) (x3 : Int32) (h : aw_H) => Sat X 9 [.ref p0, .int x1, .int x2, .int x3] [] h) Q p0 x1 h) : Sat X 0 [.ref p0, .int x1, Value.null, Value.null] [] h := by
  unfold sm_X7_ringOf_0 at hh
  refine ow_iconst (v := 1) C dX7_ringOf_0 rfl ?_
  refine ow_istore_n (L' := [.ref p0, .int x1, .int 1, Value.null]) C dX7_ringOf_1 rfl (by decide) rfl ?_
  refine ow_aload_n C dX7_ringOf_2 rfl rfl ?_
  refine ow_getR (ci := 6) (k := 7) (T := TX7) C rfl igX7 (by decide) kw_706 dX7_ringOf_3 hh (fun q1 hh => ?_)
  refine ow_iload_n C dX7_ringOf_6 rfl rfl ?_
  refine ow_iaload C dX7_ringOf_7 hh (fun v2 hh => ?_)
  refine ow_istore_n (L' := [.ref p0, .int x1, .int 1, .int v2]) C dX7_ringOf_8 rfl (by decide) rfl ?_
  exact Sat.mask hh (mk_y (mk_y (mk_y (mk_y mk_0))))
def tr_X7_ringOf : aw_T := fun as h Q => ∃ (p0 : Nat) (x1 : Int32), as = [.ref p0, .int x1] ∧ (∀ (K9 : Nat → Int32 → Int32 → Int32 → aw_H → Prop), (∀ (p0 : Nat) (x1 : Int32) (x2 : Int32) (x3 : Int32) (h : aw_H), sm_X7_ringOf_9 K9 Q p0 x1 x2 x3 h → K9 p0 x1 x2 x3 h) → sm_X7_ringOf_0 K9 Q p0 x1 h)
theorem tq_X7_ringOf {p0 : Nat} {x1 : Int32} {h : aw_H} {Q : aw_R} : tr_X7_ringOf [.ref p0, .int x1] h Q ↔ (∀ (K9 : Nat → Int32 → Int32 → Int32 → aw_H → Prop), (∀ (p0 : Nat) (x1 : Int32) (x2 : Int32) (x3 : Int32) (h : aw_H), sm_X7_ringOf_9 K9 Q p0 x1 x2 x3 h → K9 p0 x1 x2 x3 h) → sm_X7_ringOf_0 K9 Q p0 x1 h) := by
  constructor
  · rintro ⟨_, _, as0, hh⟩
    cases as0
    exact hh
  · intro hh
    exact ⟨_, _, rfl, hh⟩
theorem ct_X7_ringOf (E : aw_F) : CT E yX7_ringOf cX7_ringOf 4 (some .int) 0 tr_X7_ringOf := by
  refine ct_of (by decide) ?_
  intro X Q as h hE C Z hG
  subst hE
  obtain ⟨p0, x1, rfl, hh⟩ := hG
  refine ⟨[.ref p0, .int x1, Value.null, Value.null], rfl, Nat.le_of_ble_eq_true rfl, ?_⟩
  exact bl_X7_ringOf_0 C Z p0 x1 h (hh (fun (p0 : Nat) (x1 : Int32) (x2 : Int32) (x3 : Int32) (h : aw_H) => Sat X 9 [.ref p0, .int x1, .int x2, .int x3] [] h) (fun p0 x1 x2 x3 h hh => bl_X7_ringOf_9 C Z p0 x1 x2 x3 h hh))
theorem cv_X7_ringOf (E : aw_F) : CV E yX7_ringOf cX7_ringOf 4 (some .int) 0 1 6 tr_X7_ringOf := ⟨ct_X7_ringOf E, by decide, kw_715, kw_716, kw_527, kw_714, by decide +kernel, _, _, rfl⟩
theorem dX7_far_0 : decode cX7_far 0 = .ok (.aload_n 0, 1) := by decide +kernel
theorem dX7_far_1 : decode cX7_far 1 = .ok (.iload_n 1, 1) := by decide +kernel
theorem dX7_far_2 : decode cX7_far 2 = .ok (.invokevirtual 80, 3) := by decide +kernel
theorem dX7_far_5 : decode cX7_far 5 = .ok (.ifCond .eq 13, 3) := by decide +kernel
theorem dX7_far_8 : decode cX7_far 8 = .ok (.iload_n 2, 1) := by decide +kernel
theorem dX7_far_9 : decode cX7_far 9 = .ok (.iconst 0, 1) := by decide +kernel
theorem dX7_far_10 : decode cX7_far 10 = .ok (.ldc 166, 2) := by decide +kernel
theorem dX7_far_12 : decode cX7_far 12 = .ok (.invokestatic 42, 3) := by decide +kernel
theorem dX7_far_15 : decode cX7_far 15 = .ok (.ifCond .ne 5, 3) := by decide +kernel
theorem dX7_far_18 : decode cX7_far 18 = .ok (.iconst (-1), 1) := by decide +kernel
theorem dX7_far_19 : decode cX7_far 19 = .ok (.ireturn, 1) := by decide +kernel
theorem dX7_far_20 : decode cX7_far 20 = .ok (.aload_n 0, 1) := by decide +kernel
theorem dX7_far_21 : decode cX7_far 21 = .ok (.invokevirtual 167, 3) := by decide +kernel
theorem dX7_far_24 : decode cX7_far 24 = .ok (.iload_n 1, 1) := by decide +kernel
theorem dX7_far_25 : decode cX7_far 25 = .ok (.istore_n 3, 1) := by decide +kernel
theorem dX7_far_26 : decode cX7_far 26 = .ok (.iload_n 2, 1) := by decide +kernel
theorem dX7_far_27 : decode cX7_far 27 = .ok (.aload_n 0, 1) := by decide +kernel
theorem dX7_far_28 : decode cX7_far 28 = .ok (.iload_n 1, 1) := by decide +kernel
theorem dX7_far_29 : decode cX7_far 29 = .ok (.invokevirtual 170, 3) := by decide +kernel
theorem dX7_far_32 : decode cX7_far 32 = .ok (.irem, 1) := by decide +kernel
theorem dX7_far_33 : decode cX7_far 33 = .ok (.istore 4, 2) := by decide +kernel
theorem dX7_far_35 : decode cX7_far 35 = .ok (.iconst 0, 1) := by decide +kernel
theorem dX7_far_36 : decode cX7_far 36 = .ok (.istore 5, 2) := by decide +kernel
theorem dX7_far_38 : decode cX7_far 38 = .ok (.iload 5, 2) := by decide +kernel
theorem dX7_far_40 : decode cX7_far 40 = .ok (.iload 4, 2) := by decide +kernel
theorem dX7_far_42 : decode cX7_far 42 = .ok (.if_icmp .ge 16, 3) := by decide +kernel
theorem dX7_far_45 : decode cX7_far 45 = .ok (.aload_n 0, 1) := by decide +kernel
theorem dX7_far_46 : decode cX7_far 46 = .ok (.getfield 26, 3) := by decide +kernel
theorem dX7_far_49 : decode cX7_far 49 = .ok (.iload_n 3, 1) := by decide +kernel
theorem dX7_far_50 : decode cX7_far 50 = .ok (.iaload, 1) := by decide +kernel
theorem dX7_far_51 : decode cX7_far 51 = .ok (.istore_n 3, 1) := by decide +kernel
theorem dX7_far_52 : decode cX7_far 52 = .ok (.iinc 5 1, 3) := by decide +kernel
theorem dX7_far_55 : decode cX7_far 55 = .ok (.goto (-17), 3) := by decide +kernel
theorem dX7_far_58 : decode cX7_far 58 = .ok (.iload_n 3, 1) := by decide +kernel
theorem dX7_far_59 : decode cX7_far 59 = .ok (.ireturn, 1) := by decide +kernel
def sm_X7_far_38 (K38 : Nat → Int32 → Int32 → Int32 → aw_H → Prop) (Q : aw_R) (p0 : Nat) (x3 : Int32) (x4 : Int32) (x5 : Int32) (h : aw_H) : Prop :=
  if x4 ≤ x5 then (Q (some (.int x3)) h) else (sg_R h p0 6 7 fun q1 => sa_I h q1 x3 fun v2 => K38 p0 v2 x4 (x5 + 1) h)
set_option maxRecDepth 100000 in
set_option maxHeartbeats 4000000 in
theorem bl_X7_far_38 {X : aw_X} {Q : aw_R} (C : aw_C X cX7_far RX7 6 6) (Z : aw_Z X cX7_far (some .int) Q) (p0 : Nat) (x3 : Int32) (x4 : Int32) (x5 : Int32) (h : aw_H) (hh : sm_X7_far_38 (fun (p0 : Nat) (x3 : Int32) (x4 : Int32) (x5 : Int32) (h : aw_H) => Sat X 38 [.ref p0, Value.null, Value.null, .int x3, .int x4, .int x5] [] h) Q p0 x3 x4 x5 h) : Sat X 38 [.ref p0, Value.null, Value.null, .int x3, .int x4, .int x5] [] h := by
  unfold sm_X7_far_38 at hh
  refine ow_iload C dX7_far_38 rfl ?_
  refine ow_iload C dX7_far_40 rfl ?_
  refine ow_icmp_ge (tgt := 58) C dX7_far_42 (by decide) hh (fun hh => ?_) (fun hh => ?_)
  · skip
    refine ow_iload_n C dX7_far_58 rfl rfl ?_
    exact ow_iret Z dX7_far_59 trivial hh
  · skip
    refine ow_aload_n C dX7_far_45 rfl rfl ?_
    refine ow_getR (ci := 6) (k := 7) (T := TX7) C rfl igX7 (by decide) kw_706 dX7_far_46 hh (fun q1 hh => ?_)
    refine ow_iload_n C dX7_far_49 rfl rfl ?_
    refine ow_iaload C dX7_far_50 hh (fun v2 hh => ?_)
    refine ow_istore_n (L' := [.ref p0, Value.null, Value.null, .int v2, .int x4, .int x5]) C dX7_far_51 rfl (by decide) rfl ?_
    refine ow_iinc (v := x5 + 1) (L' := [.ref p0, Value.null, Value.null, .int v2, .int x4, .int (x5 + 1)]) C dX7_far_52 rfl rfl (by decide) rfl ?_
    refine ow_goto (tgt := 38) C dX7_far_55 (by decide) ?_
    exact Sat.mask hh (mk_y (mk_n (mk_n (mk_y (mk_y (mk_y mk_0))))))
def sm_X7_far_0 (K38 : Nat → Int32 → Int32 → Int32 → aw_H → Prop) (Q : aw_R) (p0 : Nat) (x1 : Int32) (x2 : Int32) (h : aw_H) : Prop :=
  sv_O h p0 6 (tr_X7_isState [.ref p0, .int x1] h fun r2 h1 => sr_I r2 fun v3 => if v3 = 0 then (Q (some (.int ((-1)))) h1) else (tr_X7_in [.int x2, .int 0, .int 2000000000] h1 fun r5 h4 => sr_I r5 fun v6 => if ¬ v6 = 0 then (sv_O h4 p0 6 (tr_X7_layRuns [.ref p0] h4 fun r8 h7 => sr_V r8 <| sv_O h7 p0 6 (tr_X7_ringOf [.ref p0, .int x1] h7 fun r10 h9 => sr_I r10 fun v11 => ¬ v11 = 0 ∧ (K38 p0 x1 (x2 - x2 / v11 * v11) 0 h9)))) else (Q (some (.int ((-1)))) h4)))
set_option maxRecDepth 100000 in
set_option maxHeartbeats 4000000 in
theorem bl_X7_far_0 {X : aw_X} {Q : aw_R} (C : aw_C X cX7_far RX7 6 6) (Z : aw_Z X cX7_far (some .int) Q) (p0 : Nat) (x1 : Int32) (x2 : Int32) (h : aw_H) (hh : sm_X7_far_0 (fun (p0 : Nat) (x3 : Int32) (x4 : Int32) (x5 : Int32) (h : aw_H) => Sat X 38 [.ref p0, Value.null, Value.null, .int x3, .int x4, .int x5] [] h) Q p0 x1 x2 h) : Sat X 0 [.ref p0, .int x1, .int x2, Value.null, Value.null, Value.null] [] h := by
  unfold sm_X7_far_0 at hh
  refine ow_aload_n C dX7_far_0 rfl rfl ?_
  refine ow_iload_n C dX7_far_1 rfl rfl ?_
  refine ow_callV C (cv_X7_isState _) (Nat.le_of_ble_eq_true rfl) kw_586 dX7_far_2 (as := [.int x1]) (st := []) rfl rfl (Nat.le_of_ble_eq_true rfl) hh (fun r2 h1 hq => ?_)
  obtain ⟨v3, rfl, hh⟩ := sr_I_e hq
  show Sat X 5 [.ref p0, .int x1, .int x2, Value.null, Value.null, Value.null] [.int v3] h1
  refine ow_if_eq (tgt := 18) C dX7_far_5 (by decide) hh (fun hh => ?_) (fun hh => ?_)
  · skip
    refine ow_iconst (v := (-1)) C dX7_far_18 rfl ?_
    exact ow_iret Z dX7_far_19 trivial hh
  · skip
    refine ow_iload_n C dX7_far_8 rfl rfl ?_
    refine ow_iconst (v := 0) C dX7_far_9 rfl ?_
    refine ow_ldc C kw_717 dX7_far_10 ?_
    refine ow_callS C (cs_X7_in _) (Nat.le_of_ble_eq_true rfl) kw_541 dX7_far_12 (as := [.int x2, .int 0, .int 2000000000]) (st := []) rfl rfl (Nat.le_of_ble_eq_true rfl) hh (fun r5 h4 hq => ?_)
    obtain ⟨v6, rfl, hh⟩ := sr_I_e hq
    show Sat X 15 [.ref p0, .int x1, .int x2, Value.null, Value.null, Value.null] [.int v6] h4
    refine ow_if_ne (tgt := 20) C dX7_far_15 (by decide) hh (fun hh => ?_) (fun hh => ?_)
    · skip
      refine ow_aload_n C dX7_far_20 rfl rfl ?_
      refine ow_callV C (cv_X7_layRuns _) (Nat.le_of_ble_eq_true rfl) kw_718 dX7_far_21 (as := []) (st := []) rfl rfl (Nat.le_of_ble_eq_true rfl) hh (fun r8 h7 hq => ?_)
      obtain ⟨rfl, hh⟩ := sr_V_e hq
      show Sat X 24 [.ref p0, .int x1, .int x2, Value.null, Value.null, Value.null] [] h7
      refine ow_iload_n C dX7_far_24 rfl rfl ?_
      refine ow_istore_n (L' := [.ref p0, .int x1, .int x2, .int x1, Value.null, Value.null]) C dX7_far_25 rfl (by decide) rfl ?_
      refine ow_iload_n C dX7_far_26 rfl rfl ?_
      refine ow_aload_n C dX7_far_27 rfl rfl ?_
      refine ow_iload_n C dX7_far_28 rfl rfl ?_
      refine ow_callV C (cv_X7_ringOf _) (Nat.le_of_ble_eq_true rfl) kw_719 dX7_far_29 (as := [.int x1]) (st := [.int x2]) rfl rfl (Nat.le_of_ble_eq_true rfl) hh (fun r10 h9 hq => ?_)
      obtain ⟨v11, rfl, hh⟩ := sr_I_e hq
      show Sat X 32 [.ref p0, .int x1, .int x2, .int x1, Value.null, Value.null] [.int v11, .int x2] h9
      refine ow_irem C dX7_far_32 hh (fun hh => ?_)
      refine ow_istore (L' := [.ref p0, .int x1, .int x2, .int x1, .int (x2 - x2 / v11 * v11), Value.null]) C dX7_far_33 (by decide) rfl ?_
      refine ow_iconst (v := 0) C dX7_far_35 rfl ?_
      refine ow_istore (L' := [.ref p0, .int x1, .int x2, .int x1, .int (x2 - x2 / v11 * v11), .int 0]) C dX7_far_36 (by decide) rfl ?_
      exact Sat.mask hh (mk_y (mk_n (mk_n (mk_y (mk_y (mk_y mk_0))))))
    · skip
      refine ow_iconst (v := (-1)) C dX7_far_18 rfl ?_
      exact ow_iret Z dX7_far_19 trivial hh
def tr_X7_far : aw_T := fun as h Q => ∃ (p0 : Nat) (x1 : Int32) (x2 : Int32), as = [.ref p0, .int x1, .int x2] ∧ (∀ (K38 : Nat → Int32 → Int32 → Int32 → aw_H → Prop), (∀ (p0 : Nat) (x3 : Int32) (x4 : Int32) (x5 : Int32) (h : aw_H), sm_X7_far_38 K38 Q p0 x3 x4 x5 h → K38 p0 x3 x4 x5 h) → sm_X7_far_0 K38 Q p0 x1 x2 h)
theorem tq_X7_far {p0 : Nat} {x1 : Int32} {x2 : Int32} {h : aw_H} {Q : aw_R} : tr_X7_far [.ref p0, .int x1, .int x2] h Q ↔ (∀ (K38 : Nat → Int32 → Int32 → Int32 → aw_H → Prop), (∀ (p0 : Nat) (x3 : Int32) (x4 : Int32) (x5 : Int32) (h : aw_H), sm_X7_far_38 K38 Q p0 x3 x4 x5 h → K38 p0 x3 x4 x5 h) → sm_X7_far_0 K38 Q p0 x1 x2 h) := by
  constructor
  · rintro ⟨_, _, _, as0, hh⟩
    cases as0
    exact hh
  · intro hh
    exact ⟨_, _, _, rfl, hh⟩
theorem ct_X7_far (E : aw_F) : CT E yX7_far cX7_far 6 (some .int) 6 tr_X7_far := by
  refine ct_of (by decide) ?_
  intro X Q as h hE C Z hG
  subst hE
  obtain ⟨p0, x1, x2, rfl, hh⟩ := hG
  refine ⟨[.ref p0, .int x1, .int x2, Value.null, Value.null, Value.null], rfl, Nat.le_of_ble_eq_true rfl, ?_⟩
  exact bl_X7_far_0 C Z p0 x1 x2 h (hh (fun (p0 : Nat) (x3 : Int32) (x4 : Int32) (x5 : Int32) (h : aw_H) => Sat X 38 [.ref p0, Value.null, Value.null, .int x3, .int x4, .int x5] [] h) (fun p0 x3 x4 x5 h hh => bl_X7_far_38 C Z p0 x3 x4 x5 h hh))
theorem cv_X7_far (E : aw_F) : CV E yX7_far cX7_far 6 (some .int) 6 2 6 tr_X7_far := ⟨ct_X7_far E, by decide, kw_721, kw_722, kw_527, kw_720, by decide +kernel, _, _, rfl⟩
theorem dX7_ring_0 : decode cX7_ring 0 = .ok (.aload_n 0, 1) := by decide +kernel
theorem dX7_ring_1 : decode cX7_ring 1 = .ok (.iload_n 1, 1) := by decide +kernel
theorem dX7_ring_2 : decode cX7_ring 2 = .ok (.invokevirtual 80, 3) := by decide +kernel
theorem dX7_ring_5 : decode cX7_ring 5 = .ok (.ifCond .ne 5, 3) := by decide +kernel
theorem dX7_ring_8 : decode cX7_ring 8 = .ok (.iconst (-1), 1) := by decide +kernel
theorem dX7_ring_9 : decode cX7_ring 9 = .ok (.ireturn, 1) := by decide +kernel
theorem dX7_ring_10 : decode cX7_ring 10 = .ok (.aload_n 0, 1) := by decide +kernel
theorem dX7_ring_11 : decode cX7_ring 11 = .ok (.invokevirtual 167, 3) := by decide +kernel
theorem dX7_ring_14 : decode cX7_ring 14 = .ok (.aload_n 0, 1) := by decide +kernel
theorem dX7_ring_15 : decode cX7_ring 15 = .ok (.iload_n 1, 1) := by decide +kernel
theorem dX7_ring_16 : decode cX7_ring 16 = .ok (.invokevirtual 170, 3) := by decide +kernel
theorem dX7_ring_19 : decode cX7_ring 19 = .ok (.ireturn, 1) := by decide +kernel
def sm_X7_ring_0  (Q : aw_R) (p0 : Nat) (x1 : Int32) (h : aw_H) : Prop :=
  sv_O h p0 6 (tr_X7_isState [.ref p0, .int x1] h fun r2 h1 => sr_I r2 fun v3 => if ¬ v3 = 0 then (sv_O h1 p0 6 (tr_X7_layRuns [.ref p0] h1 fun r5 h4 => sr_V r5 <| sv_O h4 p0 6 (tr_X7_ringOf [.ref p0, .int x1] h4 fun r7 h6 => sr_I r7 fun v8 => Q (some (.int v8)) h6))) else (Q (some (.int ((-1)))) h1))
set_option maxRecDepth 100000 in
set_option maxHeartbeats 4000000 in
theorem bl_X7_ring_0 {X : aw_X} {Q : aw_R} (C : aw_C X cX7_ring RX7 2 6) (Z : aw_Z X cX7_ring (some .int) Q) (p0 : Nat) (x1 : Int32) (h : aw_H) (hh : sm_X7_ring_0  Q p0 x1 h) : Sat X 0 [.ref p0, .int x1] [] h := by
  unfold sm_X7_ring_0 at hh
  refine ow_aload_n C dX7_ring_0 rfl rfl ?_
  refine ow_iload_n C dX7_ring_1 rfl rfl ?_
  refine ow_callV C (cv_X7_isState _) (Nat.le_of_ble_eq_true rfl) kw_586 dX7_ring_2 (as := [.int x1]) (st := []) rfl rfl (Nat.le_of_ble_eq_true rfl) hh (fun r2 h1 hq => ?_)
  obtain ⟨v3, rfl, hh⟩ := sr_I_e hq
  show Sat X 5 [.ref p0, .int x1] [.int v3] h1
  refine ow_if_ne (tgt := 10) C dX7_ring_5 (by decide) hh (fun hh => ?_) (fun hh => ?_)
  · skip
    refine ow_aload_n C dX7_ring_10 rfl rfl ?_
    refine ow_callV C (cv_X7_layRuns _) (Nat.le_of_ble_eq_true rfl) kw_718 dX7_ring_11 (as := []) (st := []) rfl rfl (Nat.le_of_ble_eq_true rfl) hh (fun r5 h4 hq => ?_)
    obtain ⟨rfl, hh⟩ := sr_V_e hq
    show Sat X 14 [.ref p0, .int x1] [] h4
    refine ow_aload_n C dX7_ring_14 rfl rfl ?_
    refine ow_iload_n C dX7_ring_15 rfl rfl ?_
    refine ow_callV C (cv_X7_ringOf _) (Nat.le_of_ble_eq_true rfl) kw_719 dX7_ring_16 (as := [.int x1]) (st := []) rfl rfl (Nat.le_of_ble_eq_true rfl) hh (fun r7 h6 hq => ?_)
    obtain ⟨v8, rfl, hh⟩ := sr_I_e hq
    show Sat X 19 [.ref p0, .int x1] [.int v8] h6
    exact ow_iret Z dX7_ring_19 trivial hh
  · skip
    refine ow_iconst (v := (-1)) C dX7_ring_8 rfl ?_
    exact ow_iret Z dX7_ring_9 trivial hh
def tr_X7_ring : aw_T := fun as h Q => ∃ (p0 : Nat) (x1 : Int32), as = [.ref p0, .int x1] ∧ (sm_X7_ring_0  Q p0 x1 h)
theorem tq_X7_ring {p0 : Nat} {x1 : Int32} {h : aw_H} {Q : aw_R} : tr_X7_ring [.ref p0, .int x1] h Q ↔ (sm_X7_ring_0  Q p0 x1 h) := by
  constructor
  · rintro ⟨_, _, as0, hh⟩
    cases as0
    exact hh
  · intro hh
    exact ⟨_, _, rfl, hh⟩
theorem ct_X7_ring (E : aw_F) : CT E yX7_ring cX7_ring 2 (some .int) 6 tr_X7_ring := by
  refine ct_of (by decide) ?_
  intro X Q as h hE C Z hG
  subst hE
  obtain ⟨p0, x1, rfl, hh⟩ := hG
  refine ⟨[.ref p0, .int x1], rfl, Nat.le_of_ble_eq_true rfl, ?_⟩
  exact bl_X7_ring_0 C Z p0 x1 h hh
theorem cv_X7_ring (E : aw_F) : CV E yX7_ring cX7_ring 2 (some .int) 6 1 6 tr_X7_ring := ⟨ct_X7_ring E, by decide, kw_724, kw_725, kw_527, kw_723, by decide +kernel, _, _, rfl⟩
theorem dX7_isLeast_0 : decode cX7_isLeast 0 = .ok (.iconst 1, 1) := by decide +kernel
theorem dX7_isLeast_1 : decode cX7_isLeast 1 = .ok (.istore_n 2, 1) := by decide +kernel
theorem dX7_isLeast_2 : decode cX7_isLeast 2 = .ok (.aload_n 0, 1) := by decide +kernel
theorem dX7_isLeast_3 : decode cX7_isLeast 3 = .ok (.getfield 26, 3) := by decide +kernel
theorem dX7_isLeast_6 : decode cX7_isLeast 6 = .ok (.iload_n 1, 1) := by decide +kernel
theorem dX7_isLeast_7 : decode cX7_isLeast 7 = .ok (.iaload, 1) := by decide +kernel
theorem dX7_isLeast_8 : decode cX7_isLeast 8 = .ok (.istore_n 3, 1) := by decide +kernel
theorem dX7_isLeast_9 : decode cX7_isLeast 9 = .ok (.iload_n 3, 1) := by decide +kernel
theorem dX7_isLeast_10 : decode cX7_isLeast 10 = .ok (.iload_n 1, 1) := by decide +kernel
theorem dX7_isLeast_11 : decode cX7_isLeast 11 = .ok (.if_icmp .eq 28, 3) := by decide +kernel
theorem dX7_isLeast_14 : decode cX7_isLeast 14 = .ok (.iload_n 2, 1) := by decide +kernel
theorem dX7_isLeast_15 : decode cX7_isLeast 15 = .ok (.ifCond .eq 12, 3) := by decide +kernel
theorem dX7_isLeast_18 : decode cX7_isLeast 18 = .ok (.iload_n 3, 1) := by decide +kernel
theorem dX7_isLeast_19 : decode cX7_isLeast 19 = .ok (.iload_n 1, 1) := by decide +kernel
theorem dX7_isLeast_20 : decode cX7_isLeast 20 = .ok (.if_icmp .le 7, 3) := by decide +kernel
theorem dX7_isLeast_23 : decode cX7_isLeast 23 = .ok (.iconst 1, 1) := by decide +kernel
theorem dX7_isLeast_24 : decode cX7_isLeast 24 = .ok (.goto 4, 3) := by decide +kernel
theorem dX7_isLeast_27 : decode cX7_isLeast 27 = .ok (.iconst 0, 1) := by decide +kernel
theorem dX7_isLeast_28 : decode cX7_isLeast 28 = .ok (.istore_n 2, 1) := by decide +kernel
theorem dX7_isLeast_29 : decode cX7_isLeast 29 = .ok (.aload_n 0, 1) := by decide +kernel
theorem dX7_isLeast_30 : decode cX7_isLeast 30 = .ok (.getfield 26, 3) := by decide +kernel
theorem dX7_isLeast_33 : decode cX7_isLeast 33 = .ok (.iload_n 3, 1) := by decide +kernel
theorem dX7_isLeast_34 : decode cX7_isLeast 34 = .ok (.iaload, 1) := by decide +kernel
theorem dX7_isLeast_35 : decode cX7_isLeast 35 = .ok (.istore_n 3, 1) := by decide +kernel
theorem dX7_isLeast_36 : decode cX7_isLeast 36 = .ok (.goto (-27), 3) := by decide +kernel
theorem dX7_isLeast_39 : decode cX7_isLeast 39 = .ok (.iload_n 2, 1) := by decide +kernel
theorem dX7_isLeast_40 : decode cX7_isLeast 40 = .ok (.ireturn, 1) := by decide +kernel
def sm_X7_isLeast_9 (K9 : Nat → Int32 → Int32 → Int32 → aw_H → Prop) (Q : aw_R) (p0 : Nat) (x1 : Int32) (x2 : Int32) (x3 : Int32) (h : aw_H) : Prop :=
  if x3 = x1 then ((x2 = 0 ∨ x2 = 1) ∧ Q (some (.int x2)) h) else (if x2 = 0 then (sg_R h p0 6 7 fun q1 => sa_I h q1 x3 fun v2 => K9 p0 x1 0 v2 h) else (if x3 ≤ x1 then (sg_R h p0 6 7 fun q3 => sa_I h q3 x3 fun v4 => K9 p0 x1 0 v4 h) else (sg_R h p0 6 7 fun q5 => sa_I h q5 x3 fun v6 => K9 p0 x1 1 v6 h)))
set_option maxRecDepth 100000 in
set_option maxHeartbeats 4000000 in
theorem bl_X7_isLeast_9 {X : aw_X} {Q : aw_R} (C : aw_C X cX7_isLeast RX7 4 0) (Z : aw_Z X cX7_isLeast (some .boolean) Q) (p0 : Nat) (x1 : Int32) (x2 : Int32) (x3 : Int32) (h : aw_H) (hh : sm_X7_isLeast_9 (fun (p0 : Nat) (x1 : Int32) (x2 : Int32) (x3 : Int32) (h : aw_H) => Sat X 9 [.ref p0, .int x1, .int x2, .int x3] [] h) Q p0 x1 x2 x3 h) : Sat X 9 [.ref p0, .int x1, .int x2, .int x3] [] h := by
  unfold sm_X7_isLeast_9 at hh
  refine ow_iload_n C dX7_isLeast_9 rfl rfl ?_
  refine ow_iload_n C dX7_isLeast_10 rfl rfl ?_
  refine ow_icmp_eq (tgt := 39) C dX7_isLeast_11 (by decide) hh (fun hh => ?_) (fun hh => ?_)
  · skip
    refine ow_iload_n C dX7_isLeast_39 rfl rfl ?_
    exact ow_iret Z dX7_isLeast_40 hh.1 hh.2
  · skip
    refine ow_iload_n C dX7_isLeast_14 rfl rfl ?_
    refine ow_if_eq (tgt := 27) C dX7_isLeast_15 (by decide) hh (fun hh => ?_) (fun hh => ?_)
    · skip
      refine ow_iconst (v := 0) C dX7_isLeast_27 rfl ?_
      refine ow_istore_n (L' := [.ref p0, .int x1, .int 0, .int x3]) C dX7_isLeast_28 rfl (by decide) rfl ?_
      refine ow_aload_n C dX7_isLeast_29 rfl rfl ?_
      refine ow_getR (ci := 6) (k := 7) (T := TX7) C rfl igX7 (by decide) kw_706 dX7_isLeast_30 hh (fun q1 hh => ?_)
      refine ow_iload_n C dX7_isLeast_33 rfl rfl ?_
      refine ow_iaload C dX7_isLeast_34 hh (fun v2 hh => ?_)
      refine ow_istore_n (L' := [.ref p0, .int x1, .int 0, .int v2]) C dX7_isLeast_35 rfl (by decide) rfl ?_
      refine ow_goto (tgt := 9) C dX7_isLeast_36 (by decide) ?_
      exact Sat.mask hh (mk_y (mk_y (mk_y (mk_y mk_0))))
    · skip
      refine ow_iload_n C dX7_isLeast_18 rfl rfl ?_
      refine ow_iload_n C dX7_isLeast_19 rfl rfl ?_
      refine ow_icmp_le (tgt := 27) C dX7_isLeast_20 (by decide) hh (fun hh => ?_) (fun hh => ?_)
      · skip
        refine ow_iconst (v := 0) C dX7_isLeast_27 rfl ?_
        refine ow_istore_n (L' := [.ref p0, .int x1, .int 0, .int x3]) C dX7_isLeast_28 rfl (by decide) rfl ?_
        refine ow_aload_n C dX7_isLeast_29 rfl rfl ?_
        refine ow_getR (ci := 6) (k := 7) (T := TX7) C rfl igX7 (by decide) kw_706 dX7_isLeast_30 hh (fun q3 hh => ?_)
        refine ow_iload_n C dX7_isLeast_33 rfl rfl ?_
        refine ow_iaload C dX7_isLeast_34 hh (fun v4 hh => ?_)
        refine ow_istore_n (L' := [.ref p0, .int x1, .int 0, .int v4]) C dX7_isLeast_35 rfl (by decide) rfl ?_
        refine ow_goto (tgt := 9) C dX7_isLeast_36 (by decide) ?_
        exact Sat.mask hh (mk_y (mk_y (mk_y (mk_y mk_0))))
      · skip
        refine ow_iconst (v := 1) C dX7_isLeast_23 rfl ?_
        refine ow_goto (tgt := 28) C dX7_isLeast_24 (by decide) ?_
        refine ow_istore_n (L' := [.ref p0, .int x1, .int 1, .int x3]) C dX7_isLeast_28 rfl (by decide) rfl ?_
        refine ow_aload_n C dX7_isLeast_29 rfl rfl ?_
        refine ow_getR (ci := 6) (k := 7) (T := TX7) C rfl igX7 (by decide) kw_706 dX7_isLeast_30 hh (fun q5 hh => ?_)
        refine ow_iload_n C dX7_isLeast_33 rfl rfl ?_
        refine ow_iaload C dX7_isLeast_34 hh (fun v6 hh => ?_)
        refine ow_istore_n (L' := [.ref p0, .int x1, .int 1, .int v6]) C dX7_isLeast_35 rfl (by decide) rfl ?_
        refine ow_goto (tgt := 9) C dX7_isLeast_36 (by decide) ?_
        exact Sat.mask hh (mk_y (mk_y (mk_y (mk_y mk_0))))
def sm_X7_isLeast_0 (K9 : Nat → Int32 → Int32 → Int32 → aw_H → Prop) (Q : aw_R) (p0 : Nat) (x1 : Int32) (h : aw_H) : Prop :=
  sg_R h p0 6 7 fun q1 => sa_I h q1 x1 fun v2 => K9 p0 x1 1 v2 h
set_option maxRecDepth 100000 in
set_option maxHeartbeats 4000000 in
theorem bl_X7_isLeast_0 {X : aw_X} {Q : aw_R} (C : aw_C X cX7_isLeast RX7 4 0) (Z : aw_Z X cX7_isLeast (some .boolean) Q) (p0 : Nat) (x1 : Int32) (h : aw_H) (hh : sm_X7_isLeast_0 (fun (p0 : Nat) (x1 : Int32) (x2 : Int32) (x3 : Int32) (h : aw_H) => Sat X 9 [.ref p0, .int x1, .int x2, .int x3] [] h) Q p0 x1 h) : Sat X 0 [.ref p0, .int x1, Value.null, Value.null] [] h := by
  unfold sm_X7_isLeast_0 at hh
  refine ow_iconst (v := 1) C dX7_isLeast_0 rfl ?_
  refine ow_istore_n (L' := [.ref p0, .int x1, .int 1, Value.null]) C dX7_isLeast_1 rfl (by decide) rfl ?_
  refine ow_aload_n C dX7_isLeast_2 rfl rfl ?_
  refine ow_getR (ci := 6) (k := 7) (T := TX7) C rfl igX7 (by decide) kw_706 dX7_isLeast_3 hh (fun q1 hh => ?_)
  refine ow_iload_n C dX7_isLeast_6 rfl rfl ?_
  refine ow_iaload C dX7_isLeast_7 hh (fun v2 hh => ?_)
  refine ow_istore_n (L' := [.ref p0, .int x1, .int 1, .int v2]) C dX7_isLeast_8 rfl (by decide) rfl ?_
  exact Sat.mask hh (mk_y (mk_y (mk_y (mk_y mk_0))))
def tr_X7_isLeast : aw_T := fun as h Q => ∃ (p0 : Nat) (x1 : Int32), as = [.ref p0, .int x1] ∧ (∀ (K9 : Nat → Int32 → Int32 → Int32 → aw_H → Prop), (∀ (p0 : Nat) (x1 : Int32) (x2 : Int32) (x3 : Int32) (h : aw_H), sm_X7_isLeast_9 K9 Q p0 x1 x2 x3 h → K9 p0 x1 x2 x3 h) → sm_X7_isLeast_0 K9 Q p0 x1 h)
theorem tq_X7_isLeast {p0 : Nat} {x1 : Int32} {h : aw_H} {Q : aw_R} : tr_X7_isLeast [.ref p0, .int x1] h Q ↔ (∀ (K9 : Nat → Int32 → Int32 → Int32 → aw_H → Prop), (∀ (p0 : Nat) (x1 : Int32) (x2 : Int32) (x3 : Int32) (h : aw_H), sm_X7_isLeast_9 K9 Q p0 x1 x2 x3 h → K9 p0 x1 x2 x3 h) → sm_X7_isLeast_0 K9 Q p0 x1 h) := by
  constructor
  · rintro ⟨_, _, as0, hh⟩
    cases as0
    exact hh
  · intro hh
    exact ⟨_, _, rfl, hh⟩
theorem ct_X7_isLeast (E : aw_F) : CT E yX7_isLeast cX7_isLeast 4 (some .boolean) 0 tr_X7_isLeast := by
  refine ct_of (by decide) ?_
  intro X Q as h hE C Z hG
  subst hE
  obtain ⟨p0, x1, rfl, hh⟩ := hG
  refine ⟨[.ref p0, .int x1, Value.null, Value.null], rfl, Nat.le_of_ble_eq_true rfl, ?_⟩
  exact bl_X7_isLeast_0 C Z p0 x1 h (hh (fun (p0 : Nat) (x1 : Int32) (x2 : Int32) (x3 : Int32) (h : aw_H) => Sat X 9 [.ref p0, .int x1, .int x2, .int x3] [] h) (fun p0 x1 x2 x3 h hh => bl_X7_isLeast_9 C Z p0 x1 x2 x3 h hh))
theorem cv_X7_isLeast (E : aw_F) : CV E yX7_isLeast cX7_isLeast 4 (some .boolean) 0 1 6 tr_X7_isLeast := ⟨ct_X7_isLeast E, by decide, kw_727, kw_728, kw_527, kw_726, by decide +kernel, _, _, rfl⟩
theorem dX7_ringMany_0 : decode cX7_ringMany 0 = .ok (.iconst 0, 1) := by decide +kernel
theorem dX7_ringMany_1 : decode cX7_ringMany 1 = .ok (.istore_n 1, 1) := by decide +kernel
theorem dX7_ringMany_2 : decode cX7_ringMany 2 = .ok (.iconst 0, 1) := by decide +kernel
theorem dX7_ringMany_3 : decode cX7_ringMany 3 = .ok (.istore_n 2, 1) := by decide +kernel
theorem dX7_ringMany_4 : decode cX7_ringMany 4 = .ok (.iload_n 2, 1) := by decide +kernel
theorem dX7_ringMany_5 : decode cX7_ringMany 5 = .ok (.aload_n 0, 1) := by decide +kernel
theorem dX7_ringMany_6 : decode cX7_ringMany 6 = .ok (.invokevirtual 38, 3) := by decide +kernel
theorem dX7_ringMany_9 : decode cX7_ringMany 9 = .ok (.if_icmp .ge 25, 3) := by decide +kernel
theorem dX7_ringMany_12 : decode cX7_ringMany 12 = .ok (.iload_n 1, 1) := by decide +kernel
theorem dX7_ringMany_13 : decode cX7_ringMany 13 = .ok (.aload_n 0, 1) := by decide +kernel
theorem dX7_ringMany_14 : decode cX7_ringMany 14 = .ok (.iload_n 2, 1) := by decide +kernel
theorem dX7_ringMany_15 : decode cX7_ringMany 15 = .ok (.invokevirtual 173, 3) := by decide +kernel
theorem dX7_ringMany_18 : decode cX7_ringMany 18 = .ok (.ifCond .eq 7, 3) := by decide +kernel
theorem dX7_ringMany_21 : decode cX7_ringMany 21 = .ok (.iconst 1, 1) := by decide +kernel
theorem dX7_ringMany_22 : decode cX7_ringMany 22 = .ok (.goto 4, 3) := by decide +kernel
theorem dX7_ringMany_25 : decode cX7_ringMany 25 = .ok (.iconst 0, 1) := by decide +kernel
theorem dX7_ringMany_26 : decode cX7_ringMany 26 = .ok (.iadd, 1) := by decide +kernel
theorem dX7_ringMany_27 : decode cX7_ringMany 27 = .ok (.istore_n 1, 1) := by decide +kernel
theorem dX7_ringMany_28 : decode cX7_ringMany 28 = .ok (.iinc 2 1, 3) := by decide +kernel
theorem dX7_ringMany_31 : decode cX7_ringMany 31 = .ok (.goto (-27), 3) := by decide +kernel
theorem dX7_ringMany_34 : decode cX7_ringMany 34 = .ok (.iload_n 1, 1) := by decide +kernel
theorem dX7_ringMany_35 : decode cX7_ringMany 35 = .ok (.ireturn, 1) := by decide +kernel
def sm_X7_ringMany_4 (K4 : Nat → Int32 → Int32 → aw_H → Prop) (Q : aw_R) (p0 : Nat) (x1 : Int32) (x2 : Int32) (h : aw_H) : Prop :=
  sv_O h p0 6 (tr_X7_states [.ref p0] h fun r2 h1 => sr_I r2 fun v3 => if v3 ≤ x2 then (Q (some (.int x1)) h1) else (sv_O h1 p0 6 (tr_X7_isLeast [.ref p0, .int x2] h1 fun r5 h4 => sr_I r5 fun v6 => if v6 = 0 then (K4 p0 (x1 + 0) (x2 + 1) h4) else (K4 p0 (x1 + 1) (x2 + 1) h4))))
set_option maxRecDepth 100000 in
set_option maxHeartbeats 4000000 in
theorem bl_X7_ringMany_4 {X : aw_X} {Q : aw_R} (C : aw_C X cX7_ringMany RX7 3 1) (Z : aw_Z X cX7_ringMany (some .int) Q) (p0 : Nat) (x1 : Int32) (x2 : Int32) (h : aw_H) (hh : sm_X7_ringMany_4 (fun (p0 : Nat) (x1 : Int32) (x2 : Int32) (h : aw_H) => Sat X 4 [.ref p0, .int x1, .int x2] [] h) Q p0 x1 x2 h) : Sat X 4 [.ref p0, .int x1, .int x2] [] h := by
  unfold sm_X7_ringMany_4 at hh
  refine ow_iload_n C dX7_ringMany_4 rfl rfl ?_
  refine ow_aload_n C dX7_ringMany_5 rfl rfl ?_
  refine ow_callV C (cv_X7_states _) (Nat.le_of_ble_eq_true rfl) kw_540 dX7_ringMany_6 (as := []) (st := [.int x2]) rfl rfl (Nat.le_of_ble_eq_true rfl) hh (fun r2 h1 hq => ?_)
  obtain ⟨v3, rfl, hh⟩ := sr_I_e hq
  show Sat X 9 [.ref p0, .int x1, .int x2] [.int v3, .int x2] h1
  refine ow_icmp_ge (tgt := 34) C dX7_ringMany_9 (by decide) hh (fun hh => ?_) (fun hh => ?_)
  · skip
    refine ow_iload_n C dX7_ringMany_34 rfl rfl ?_
    exact ow_iret Z dX7_ringMany_35 trivial hh
  · skip
    refine ow_iload_n C dX7_ringMany_12 rfl rfl ?_
    refine ow_aload_n C dX7_ringMany_13 rfl rfl ?_
    refine ow_iload_n C dX7_ringMany_14 rfl rfl ?_
    refine ow_callV C (cv_X7_isLeast _) (Nat.le_of_ble_eq_true rfl) kw_729 dX7_ringMany_15 (as := [.int x2]) (st := [.int x1]) rfl rfl (Nat.le_of_ble_eq_true rfl) hh (fun r5 h4 hq => ?_)
    obtain ⟨v6, rfl, hh⟩ := sr_I_e hq
    show Sat X 18 [.ref p0, .int x1, .int x2] [.int v6, .int x1] h4
    refine ow_if_eq (tgt := 25) C dX7_ringMany_18 (by decide) hh (fun hh => ?_) (fun hh => ?_)
    · skip
      refine ow_iconst (v := 0) C dX7_ringMany_25 rfl ?_
      refine ow_iadd C dX7_ringMany_26 ?_
      refine ow_istore_n (L' := [.ref p0, .int (x1 + 0), .int x2]) C dX7_ringMany_27 rfl (by decide) rfl ?_
      refine ow_iinc (v := x2 + 1) (L' := [.ref p0, .int (x1 + 0), .int (x2 + 1)]) C dX7_ringMany_28 rfl rfl (by decide) rfl ?_
      refine ow_goto (tgt := 4) C dX7_ringMany_31 (by decide) ?_
      exact Sat.mask hh (mk_y (mk_y (mk_y mk_0)))
    · skip
      refine ow_iconst (v := 1) C dX7_ringMany_21 rfl ?_
      refine ow_goto (tgt := 26) C dX7_ringMany_22 (by decide) ?_
      refine ow_iadd C dX7_ringMany_26 ?_
      refine ow_istore_n (L' := [.ref p0, .int (x1 + 1), .int x2]) C dX7_ringMany_27 rfl (by decide) rfl ?_
      refine ow_iinc (v := x2 + 1) (L' := [.ref p0, .int (x1 + 1), .int (x2 + 1)]) C dX7_ringMany_28 rfl rfl (by decide) rfl ?_
      refine ow_goto (tgt := 4) C dX7_ringMany_31 (by decide) ?_
      exact Sat.mask hh (mk_y (mk_y (mk_y mk_0)))
def sm_X7_ringMany_0 (K4 : Nat → Int32 → Int32 → aw_H → Prop) (Q : aw_R) (p0 : Nat) (h : aw_H) : Prop :=
  K4 p0 0 0 h
set_option maxRecDepth 100000 in
set_option maxHeartbeats 4000000 in
theorem bl_X7_ringMany_0 {X : aw_X} {Q : aw_R} (C : aw_C X cX7_ringMany RX7 3 1) (Z : aw_Z X cX7_ringMany (some .int) Q) (p0 : Nat) (h : aw_H) (hh : sm_X7_ringMany_0 (fun (p0 : Nat) (x1 : Int32) (x2 : Int32) (h : aw_H) => Sat X 4 [.ref p0, .int x1, .int x2] [] h) Q p0 h) : Sat X 0 [.ref p0, Value.null, Value.null] [] h := by
  unfold sm_X7_ringMany_0 at hh
  refine ow_iconst (v := 0) C dX7_ringMany_0 rfl ?_
  refine ow_istore_n (L' := [.ref p0, .int 0, Value.null]) C dX7_ringMany_1 rfl (by decide) rfl ?_
  refine ow_iconst (v := 0) C dX7_ringMany_2 rfl ?_
  refine ow_istore_n (L' := [.ref p0, .int 0, .int 0]) C dX7_ringMany_3 rfl (by decide) rfl ?_
  exact Sat.mask hh (mk_y (mk_y (mk_y mk_0)))
def tr_X7_ringMany : aw_T := fun as h Q => ∃ (p0 : Nat), as = [.ref p0] ∧ (∀ (K4 : Nat → Int32 → Int32 → aw_H → Prop), (∀ (p0 : Nat) (x1 : Int32) (x2 : Int32) (h : aw_H), sm_X7_ringMany_4 K4 Q p0 x1 x2 h → K4 p0 x1 x2 h) → sm_X7_ringMany_0 K4 Q p0 h)
theorem tq_X7_ringMany {p0 : Nat} {h : aw_H} {Q : aw_R} : tr_X7_ringMany [.ref p0] h Q ↔ (∀ (K4 : Nat → Int32 → Int32 → aw_H → Prop), (∀ (p0 : Nat) (x1 : Int32) (x2 : Int32) (h : aw_H), sm_X7_ringMany_4 K4 Q p0 x1 x2 h → K4 p0 x1 x2 h) → sm_X7_ringMany_0 K4 Q p0 h) := by
  constructor
  · rintro ⟨_, as0, hh⟩
    cases as0
    exact hh
  · intro hh
    exact ⟨_, rfl, hh⟩
theorem ct_X7_ringMany (E : aw_F) : CT E yX7_ringMany cX7_ringMany 3 (some .int) 1 tr_X7_ringMany := by
  refine ct_of (by decide) ?_
  intro X Q as h hE C Z hG
  subst hE
  obtain ⟨p0, rfl, hh⟩ := hG
  refine ⟨[.ref p0, Value.null, Value.null], rfl, Nat.le_of_ble_eq_true rfl, ?_⟩
  exact bl_X7_ringMany_0 C Z p0 h (hh (fun (p0 : Nat) (x1 : Int32) (x2 : Int32) (h : aw_H) => Sat X 4 [.ref p0, .int x1, .int x2] [] h) (fun p0 x1 x2 h hh => bl_X7_ringMany_4 C Z p0 x1 x2 h hh))
theorem cv_X7_ringMany (E : aw_F) : CV E yX7_ringMany cX7_ringMany 3 (some .int) 1 0 6 tr_X7_ringMany := ⟨ct_X7_ringMany E, by decide, kw_731, kw_732, kw_527, kw_730, by decide +kernel, _, _, rfl⟩
theorem dX7_rings_0 : decode cX7_rings 0 = .ok (.iload_n 1, 1) := by decide +kernel
theorem dX7_rings_1 : decode cX7_rings 1 = .ok (.iconst 0, 1) := by decide +kernel
theorem dX7_rings_2 : decode cX7_rings 2 = .ok (.iconst 2, 1) := by decide +kernel
theorem dX7_rings_3 : decode cX7_rings 3 = .ok (.invokestatic 42, 3) := by decide +kernel
theorem dX7_rings_6 : decode cX7_rings 6 = .ok (.ifCond .ne 5, 3) := by decide +kernel
theorem dX7_rings_9 : decode cX7_rings 9 = .ok (.iconst (-1), 1) := by decide +kernel
theorem dX7_rings_10 : decode cX7_rings 10 = .ok (.ireturn, 1) := by decide +kernel
theorem dX7_rings_11 : decode cX7_rings 11 = .ok (.aload_n 0, 1) := by decide +kernel
theorem dX7_rings_12 : decode cX7_rings 12 = .ok (.invokevirtual 167, 3) := by decide +kernel
theorem dX7_rings_15 : decode cX7_rings 15 = .ok (.iconst 0, 1) := by decide +kernel
theorem dX7_rings_16 : decode cX7_rings 16 = .ok (.istore_n 2, 1) := by decide +kernel
theorem dX7_rings_17 : decode cX7_rings 17 = .ok (.iconst 0, 1) := by decide +kernel
theorem dX7_rings_18 : decode cX7_rings 18 = .ok (.istore_n 3, 1) := by decide +kernel
theorem dX7_rings_19 : decode cX7_rings 19 = .ok (.iconst 0, 1) := by decide +kernel
theorem dX7_rings_20 : decode cX7_rings 20 = .ok (.istore 4, 2) := by decide +kernel
theorem dX7_rings_22 : decode cX7_rings 22 = .ok (.iload 4, 2) := by decide +kernel
theorem dX7_rings_24 : decode cX7_rings 24 = .ok (.aload_n 0, 1) := by decide +kernel
theorem dX7_rings_25 : decode cX7_rings 25 = .ok (.invokevirtual 38, 3) := by decide +kernel
theorem dX7_rings_28 : decode cX7_rings 28 = .ok (.if_icmp .ge 50, 3) := by decide +kernel
theorem dX7_rings_31 : decode cX7_rings 31 = .ok (.aload_n 0, 1) := by decide +kernel
theorem dX7_rings_32 : decode cX7_rings 32 = .ok (.iload 4, 2) := by decide +kernel
theorem dX7_rings_34 : decode cX7_rings 34 = .ok (.invokevirtual 170, 3) := by decide +kernel
theorem dX7_rings_37 : decode cX7_rings 37 = .ok (.iload_n 2, 1) := by decide +kernel
theorem dX7_rings_38 : decode cX7_rings 38 = .ok (.if_icmp .le 12, 3) := by decide +kernel
theorem dX7_rings_41 : decode cX7_rings 41 = .ok (.aload_n 0, 1) := by decide +kernel
theorem dX7_rings_42 : decode cX7_rings 42 = .ok (.iload 4, 2) := by decide +kernel
theorem dX7_rings_44 : decode cX7_rings 44 = .ok (.invokevirtual 170, 3) := by decide +kernel
theorem dX7_rings_47 : decode cX7_rings 47 = .ok (.goto 4, 3) := by decide +kernel
theorem dX7_rings_50 : decode cX7_rings 50 = .ok (.iload_n 2, 1) := by decide +kernel
theorem dX7_rings_51 : decode cX7_rings 51 = .ok (.istore_n 2, 1) := by decide +kernel
theorem dX7_rings_52 : decode cX7_rings 52 = .ok (.iload_n 3, 1) := by decide +kernel
theorem dX7_rings_53 : decode cX7_rings 53 = .ok (.aload_n 0, 1) := by decide +kernel
theorem dX7_rings_54 : decode cX7_rings 54 = .ok (.getfield 26, 3) := by decide +kernel
theorem dX7_rings_57 : decode cX7_rings 57 = .ok (.iload 4, 2) := by decide +kernel
theorem dX7_rings_59 : decode cX7_rings 59 = .ok (.iaload, 1) := by decide +kernel
theorem dX7_rings_60 : decode cX7_rings 60 = .ok (.iload 4, 2) := by decide +kernel
theorem dX7_rings_62 : decode cX7_rings 62 = .ok (.if_icmp .ne 7, 3) := by decide +kernel
theorem dX7_rings_65 : decode cX7_rings 65 = .ok (.iconst 1, 1) := by decide +kernel
theorem dX7_rings_66 : decode cX7_rings 66 = .ok (.goto 4, 3) := by decide +kernel
theorem dX7_rings_69 : decode cX7_rings 69 = .ok (.iconst 0, 1) := by decide +kernel
theorem dX7_rings_70 : decode cX7_rings 70 = .ok (.iadd, 1) := by decide +kernel
theorem dX7_rings_71 : decode cX7_rings 71 = .ok (.istore_n 3, 1) := by decide +kernel
theorem dX7_rings_72 : decode cX7_rings 72 = .ok (.iinc 4 1, 3) := by decide +kernel
theorem dX7_rings_75 : decode cX7_rings 75 = .ok (.goto (-53), 3) := by decide +kernel
theorem dX7_rings_78 : decode cX7_rings 78 = .ok (.iload_n 1, 1) := by decide +kernel
theorem dX7_rings_79 : decode cX7_rings 79 = .ok (.ifCond .ne 10, 3) := by decide +kernel
theorem dX7_rings_82 : decode cX7_rings 82 = .ok (.aload_n 0, 1) := by decide +kernel
theorem dX7_rings_83 : decode cX7_rings 83 = .ok (.invokevirtual 176, 3) := by decide +kernel
theorem dX7_rings_86 : decode cX7_rings 86 = .ok (.goto 13, 3) := by decide +kernel
theorem dX7_rings_89 : decode cX7_rings 89 = .ok (.iload_n 1, 1) := by decide +kernel
theorem dX7_rings_90 : decode cX7_rings 90 = .ok (.iconst 1, 1) := by decide +kernel
theorem dX7_rings_91 : decode cX7_rings 91 = .ok (.if_icmp .ne 7, 3) := by decide +kernel
theorem dX7_rings_94 : decode cX7_rings 94 = .ok (.iload_n 2, 1) := by decide +kernel
theorem dX7_rings_95 : decode cX7_rings 95 = .ok (.goto 4, 3) := by decide +kernel
theorem dX7_rings_98 : decode cX7_rings 98 = .ok (.iload_n 3, 1) := by decide +kernel
theorem dX7_rings_99 : decode cX7_rings 99 = .ok (.ireturn, 1) := by decide +kernel
def sm_X7_rings_51 (K22 : Nat → Int32 → Int32 → Int32 → Int32 → aw_H → Prop) (Q : aw_R) (p0 : Nat) (x1 : Int32) (x3 : Int32) (x4 : Int32) (xs0 : Int32) (h : aw_H) : Prop :=
  sg_R h p0 6 7 fun q1 => sa_I h q1 x4 fun v2 => if ¬ v2 = x4 then (K22 p0 x1 xs0 (x3 + 0) (x4 + 1) h) else (K22 p0 x1 xs0 (x3 + 1) (x4 + 1) h)
set_option maxRecDepth 100000 in
set_option maxHeartbeats 4000000 in
theorem bl_X7_rings_51 {X : aw_X} {Q : aw_R} (C : aw_C X cX7_rings RX7 5 6) (Z : aw_Z X cX7_rings (some .int) Q) (p0 : Nat) (x1 : Int32) (x3 : Int32) (x4 : Int32) (xs0 : Int32) (h : aw_H) (hh : sm_X7_rings_51 (fun (p0 : Nat) (x1 : Int32) (x2 : Int32) (x3 : Int32) (x4 : Int32) (h : aw_H) => Sat X 22 [.ref p0, .int x1, .int x2, .int x3, .int x4] [] h) Q p0 x1 x3 x4 xs0 h) : Sat X 51 [.ref p0, .int x1, Value.null, .int x3, .int x4] [.int xs0] h := by
  unfold sm_X7_rings_51 at hh
  refine ow_istore_n (L' := [.ref p0, .int x1, .int xs0, .int x3, .int x4]) C dX7_rings_51 rfl (by decide) rfl ?_
  refine ow_iload_n C dX7_rings_52 rfl rfl ?_
  refine ow_aload_n C dX7_rings_53 rfl rfl ?_
  refine ow_getR (ci := 6) (k := 7) (T := TX7) C rfl igX7 (by decide) kw_706 dX7_rings_54 hh (fun q1 hh => ?_)
  refine ow_iload C dX7_rings_57 rfl ?_
  refine ow_iaload C dX7_rings_59 hh (fun v2 hh => ?_)
  refine ow_iload C dX7_rings_60 rfl ?_
  refine ow_icmp_ne (tgt := 69) C dX7_rings_62 (by decide) hh (fun hh => ?_) (fun hh => ?_)
  · skip
    refine ow_iconst (v := 0) C dX7_rings_69 rfl ?_
    refine ow_iadd C dX7_rings_70 ?_
    refine ow_istore_n (L' := [.ref p0, .int x1, .int xs0, .int (x3 + 0), .int x4]) C dX7_rings_71 rfl (by decide) rfl ?_
    refine ow_iinc (v := x4 + 1) (L' := [.ref p0, .int x1, .int xs0, .int (x3 + 0), .int (x4 + 1)]) C dX7_rings_72 rfl rfl (by decide) rfl ?_
    refine ow_goto (tgt := 22) C dX7_rings_75 (by decide) ?_
    exact Sat.mask hh (mk_y (mk_y (mk_y (mk_y (mk_y mk_0)))))
  · skip
    refine ow_iconst (v := 1) C dX7_rings_65 rfl ?_
    refine ow_goto (tgt := 70) C dX7_rings_66 (by decide) ?_
    refine ow_iadd C dX7_rings_70 ?_
    refine ow_istore_n (L' := [.ref p0, .int x1, .int xs0, .int (x3 + 1), .int x4]) C dX7_rings_71 rfl (by decide) rfl ?_
    refine ow_iinc (v := x4 + 1) (L' := [.ref p0, .int x1, .int xs0, .int (x3 + 1), .int (x4 + 1)]) C dX7_rings_72 rfl rfl (by decide) rfl ?_
    refine ow_goto (tgt := 22) C dX7_rings_75 (by decide) ?_
    exact Sat.mask hh (mk_y (mk_y (mk_y (mk_y (mk_y mk_0)))))
def sm_X7_rings_22 (K22 : Nat → Int32 → Int32 → Int32 → Int32 → aw_H → Prop) (Q : aw_R) (p0 : Nat) (x1 : Int32) (x2 : Int32) (x3 : Int32) (x4 : Int32) (h : aw_H) : Prop :=
  sv_O h p0 6 (tr_X7_states [.ref p0] h fun r2 h1 => sr_I r2 fun v3 => if v3 ≤ x4 then (if ¬ x1 = 0 then (if ¬ x1 = 1 then (Q (some (.int x3)) h1) else (Q (some (.int x2)) h1)) else (sv_O h1 p0 6 (tr_X7_ringMany [.ref p0] h1 fun r5 h4 => sr_I r5 fun v6 => Q (some (.int v6)) h4))) else (sv_O h1 p0 6 (tr_X7_ringOf [.ref p0, .int x4] h1 fun r8 h7 => sr_I r8 fun v9 => if v9 ≤ x2 then (sm_X7_rings_51 K22 Q p0 x1 x3 x4 x2 h7) else (sv_O h7 p0 6 (tr_X7_ringOf [.ref p0, .int x4] h7 fun r11 h10 => sr_I r11 fun v12 => sm_X7_rings_51 K22 Q p0 x1 x3 x4 v12 h10)))))
set_option maxRecDepth 100000 in
set_option maxHeartbeats 4000000 in
theorem bl_X7_rings_22 {X : aw_X} {Q : aw_R} (C : aw_C X cX7_rings RX7 5 6) (Z : aw_Z X cX7_rings (some .int) Q) (p0 : Nat) (x1 : Int32) (x2 : Int32) (x3 : Int32) (x4 : Int32) (h : aw_H) (hh : sm_X7_rings_22 (fun (p0 : Nat) (x1 : Int32) (x2 : Int32) (x3 : Int32) (x4 : Int32) (h : aw_H) => Sat X 22 [.ref p0, .int x1, .int x2, .int x3, .int x4] [] h) Q p0 x1 x2 x3 x4 h) : Sat X 22 [.ref p0, .int x1, .int x2, .int x3, .int x4] [] h := by
  unfold sm_X7_rings_22 at hh
  refine ow_iload C dX7_rings_22 rfl ?_
  refine ow_aload_n C dX7_rings_24 rfl rfl ?_
  refine ow_callV C (cv_X7_states _) (Nat.le_of_ble_eq_true rfl) kw_540 dX7_rings_25 (as := []) (st := [.int x4]) rfl rfl (Nat.le_of_ble_eq_true rfl) hh (fun r2 h1 hq => ?_)
  obtain ⟨v3, rfl, hh⟩ := sr_I_e hq
  show Sat X 28 [.ref p0, .int x1, .int x2, .int x3, .int x4] [.int v3, .int x4] h1
  refine ow_icmp_ge (tgt := 78) C dX7_rings_28 (by decide) hh (fun hh => ?_) (fun hh => ?_)
  · skip
    refine ow_iload_n C dX7_rings_78 rfl rfl ?_
    refine ow_if_ne (tgt := 89) C dX7_rings_79 (by decide) hh (fun hh => ?_) (fun hh => ?_)
    · skip
      refine ow_iload_n C dX7_rings_89 rfl rfl ?_
      refine ow_iconst (v := 1) C dX7_rings_90 rfl ?_
      refine ow_icmp_ne (tgt := 98) C dX7_rings_91 (by decide) hh (fun hh => ?_) (fun hh => ?_)
      · skip
        refine ow_iload_n C dX7_rings_98 rfl rfl ?_
        exact ow_iret Z dX7_rings_99 trivial hh
      · skip
        refine ow_iload_n C dX7_rings_94 rfl rfl ?_
        refine ow_goto (tgt := 99) C dX7_rings_95 (by decide) ?_
        exact ow_iret Z dX7_rings_99 trivial hh
    · skip
      refine ow_aload_n C dX7_rings_82 rfl rfl ?_
      refine ow_callV C (cv_X7_ringMany _) (Nat.le_of_ble_eq_true rfl) kw_733 dX7_rings_83 (as := []) (st := []) rfl rfl (Nat.le_of_ble_eq_true rfl) hh (fun r5 h4 hq => ?_)
      obtain ⟨v6, rfl, hh⟩ := sr_I_e hq
      show Sat X 86 [.ref p0, .int x1, .int x2, .int x3, .int x4] [.int v6] h4
      refine ow_goto (tgt := 99) C dX7_rings_86 (by decide) ?_
      exact ow_iret Z dX7_rings_99 trivial hh
  · skip
    refine ow_aload_n C dX7_rings_31 rfl rfl ?_
    refine ow_iload C dX7_rings_32 rfl ?_
    refine ow_callV C (cv_X7_ringOf _) (Nat.le_of_ble_eq_true rfl) kw_719 dX7_rings_34 (as := [.int x4]) (st := []) rfl rfl (Nat.le_of_ble_eq_true rfl) hh (fun r8 h7 hq => ?_)
    obtain ⟨v9, rfl, hh⟩ := sr_I_e hq
    show Sat X 37 [.ref p0, .int x1, .int x2, .int x3, .int x4] [.int v9] h7
    refine ow_iload_n C dX7_rings_37 rfl rfl ?_
    refine ow_icmp_le (tgt := 50) C dX7_rings_38 (by decide) hh (fun hh => ?_) (fun hh => ?_)
    · skip
      refine ow_iload_n C dX7_rings_50 rfl rfl ?_
      exact Sat.mask (bl_X7_rings_51 C Z p0 x1 x3 x4 x2 h7 hh) (mk_y (mk_y (mk_n (mk_y (mk_y mk_0)))))
    · skip
      refine ow_aload_n C dX7_rings_41 rfl rfl ?_
      refine ow_iload C dX7_rings_42 rfl ?_
      refine ow_callV C (cv_X7_ringOf _) (Nat.le_of_ble_eq_true rfl) kw_719 dX7_rings_44 (as := [.int x4]) (st := []) rfl rfl (Nat.le_of_ble_eq_true rfl) hh (fun r11 h10 hq => ?_)
      obtain ⟨v12, rfl, hh⟩ := sr_I_e hq
      show Sat X 47 [.ref p0, .int x1, .int x2, .int x3, .int x4] [.int v12] h10
      refine ow_goto (tgt := 51) C dX7_rings_47 (by decide) ?_
      exact Sat.mask (bl_X7_rings_51 C Z p0 x1 x3 x4 v12 h10 hh) (mk_y (mk_y (mk_n (mk_y (mk_y mk_0)))))
def sm_X7_rings_0 (K22 : Nat → Int32 → Int32 → Int32 → Int32 → aw_H → Prop) (Q : aw_R) (p0 : Nat) (x1 : Int32) (h : aw_H) : Prop :=
  tr_X7_in [.int x1, .int 0, .int 2] h fun r2 h1 => sr_I r2 fun v3 => if ¬ v3 = 0 then (sv_O h1 p0 6 (tr_X7_layRuns [.ref p0] h1 fun r5 h4 => sr_V r5 <| K22 p0 x1 0 0 0 h4)) else (Q (some (.int ((-1)))) h1)
set_option maxRecDepth 100000 in
set_option maxHeartbeats 4000000 in
theorem bl_X7_rings_0 {X : aw_X} {Q : aw_R} (C : aw_C X cX7_rings RX7 5 6) (Z : aw_Z X cX7_rings (some .int) Q) (p0 : Nat) (x1 : Int32) (h : aw_H) (hh : sm_X7_rings_0 (fun (p0 : Nat) (x1 : Int32) (x2 : Int32) (x3 : Int32) (x4 : Int32) (h : aw_H) => Sat X 22 [.ref p0, .int x1, .int x2, .int x3, .int x4] [] h) Q p0 x1 h) : Sat X 0 [.ref p0, .int x1, Value.null, Value.null, Value.null] [] h := by
  unfold sm_X7_rings_0 at hh
  refine ow_iload_n C dX7_rings_0 rfl rfl ?_
  refine ow_iconst (v := 0) C dX7_rings_1 rfl ?_
  refine ow_iconst (v := 2) C dX7_rings_2 rfl ?_
  refine ow_callS C (cs_X7_in _) (Nat.le_of_ble_eq_true rfl) kw_541 dX7_rings_3 (as := [.int x1, .int 0, .int 2]) (st := []) rfl rfl (Nat.le_of_ble_eq_true rfl) hh (fun r2 h1 hq => ?_)
  obtain ⟨v3, rfl, hh⟩ := sr_I_e hq
  show Sat X 6 [.ref p0, .int x1, Value.null, Value.null, Value.null] [.int v3] h1
  refine ow_if_ne (tgt := 11) C dX7_rings_6 (by decide) hh (fun hh => ?_) (fun hh => ?_)
  · skip
    refine ow_aload_n C dX7_rings_11 rfl rfl ?_
    refine ow_callV C (cv_X7_layRuns _) (Nat.le_of_ble_eq_true rfl) kw_718 dX7_rings_12 (as := []) (st := []) rfl rfl (Nat.le_of_ble_eq_true rfl) hh (fun r5 h4 hq => ?_)
    obtain ⟨rfl, hh⟩ := sr_V_e hq
    show Sat X 15 [.ref p0, .int x1, Value.null, Value.null, Value.null] [] h4
    refine ow_iconst (v := 0) C dX7_rings_15 rfl ?_
    refine ow_istore_n (L' := [.ref p0, .int x1, .int 0, Value.null, Value.null]) C dX7_rings_16 rfl (by decide) rfl ?_
    refine ow_iconst (v := 0) C dX7_rings_17 rfl ?_
    refine ow_istore_n (L' := [.ref p0, .int x1, .int 0, .int 0, Value.null]) C dX7_rings_18 rfl (by decide) rfl ?_
    refine ow_iconst (v := 0) C dX7_rings_19 rfl ?_
    refine ow_istore (L' := [.ref p0, .int x1, .int 0, .int 0, .int 0]) C dX7_rings_20 (by decide) rfl ?_
    exact Sat.mask hh (mk_y (mk_y (mk_y (mk_y (mk_y mk_0)))))
  · skip
    refine ow_iconst (v := (-1)) C dX7_rings_9 rfl ?_
    exact ow_iret Z dX7_rings_10 trivial hh
def tr_X7_rings : aw_T := fun as h Q => ∃ (p0 : Nat) (x1 : Int32), as = [.ref p0, .int x1] ∧ (∀ (K22 : Nat → Int32 → Int32 → Int32 → Int32 → aw_H → Prop), (∀ (p0 : Nat) (x1 : Int32) (x2 : Int32) (x3 : Int32) (x4 : Int32) (h : aw_H), sm_X7_rings_22 K22 Q p0 x1 x2 x3 x4 h → K22 p0 x1 x2 x3 x4 h) → sm_X7_rings_0 K22 Q p0 x1 h)
theorem tq_X7_rings {p0 : Nat} {x1 : Int32} {h : aw_H} {Q : aw_R} : tr_X7_rings [.ref p0, .int x1] h Q ↔ (∀ (K22 : Nat → Int32 → Int32 → Int32 → Int32 → aw_H → Prop), (∀ (p0 : Nat) (x1 : Int32) (x2 : Int32) (x3 : Int32) (x4 : Int32) (h : aw_H), sm_X7_rings_22 K22 Q p0 x1 x2 x3 x4 h → K22 p0 x1 x2 x3 x4 h) → sm_X7_rings_0 K22 Q p0 x1 h) := by
  constructor
  · rintro ⟨_, _, as0, hh⟩
    cases as0
    exact hh
  · intro hh
    exact ⟨_, _, rfl, hh⟩
theorem ct_X7_rings (E : aw_F) : CT E yX7_rings cX7_rings 5 (some .int) 6 tr_X7_rings := by
  refine ct_of (by decide) ?_
  intro X Q as h hE C Z hG
  subst hE
  obtain ⟨p0, x1, rfl, hh⟩ := hG
  refine ⟨[.ref p0, .int x1, Value.null, Value.null, Value.null], rfl, Nat.le_of_ble_eq_true rfl, ?_⟩
  exact bl_X7_rings_0 C Z p0 x1 h (hh (fun (p0 : Nat) (x1 : Int32) (x2 : Int32) (x3 : Int32) (x4 : Int32) (h : aw_H) => Sat X 22 [.ref p0, .int x1, .int x2, .int x3, .int x4] [] h) (fun p0 x1 x2 x3 x4 h hh => bl_X7_rings_22 C Z p0 x1 x2 x3 x4 h hh))
theorem cv_X7_rings (E : aw_F) : CV E yX7_rings cX7_rings 5 (some .int) 6 1 6 tr_X7_rings := ⟨ct_X7_rings E, by decide, kw_735, kw_736, kw_527, kw_734, by decide +kernel, _, _, rfl⟩
theorem dX7_common_0 : decode cX7_common 0 = .ok (.iload_n 0, 1) := by decide +kernel
theorem dX7_common_1 : decode cX7_common 1 = .ok (.istore_n 2, 1) := by decide +kernel
theorem dX7_common_2 : decode cX7_common 2 = .ok (.iload_n 1, 1) := by decide +kernel
theorem dX7_common_3 : decode cX7_common 3 = .ok (.istore_n 3, 1) := by decide +kernel
theorem dX7_common_4 : decode cX7_common 4 = .ok (.iload_n 3, 1) := by decide +kernel
theorem dX7_common_5 : decode cX7_common 5 = .ok (.ifCond .eq 16, 3) := by decide +kernel
theorem dX7_common_8 : decode cX7_common 8 = .ok (.iload_n 2, 1) := by decide +kernel
theorem dX7_common_9 : decode cX7_common 9 = .ok (.iload_n 3, 1) := by decide +kernel
theorem dX7_common_10 : decode cX7_common 10 = .ok (.irem, 1) := by decide +kernel
theorem dX7_common_11 : decode cX7_common 11 = .ok (.istore 4, 2) := by decide +kernel
theorem dX7_common_13 : decode cX7_common 13 = .ok (.iload_n 3, 1) := by decide +kernel
theorem dX7_common_14 : decode cX7_common 14 = .ok (.istore_n 2, 1) := by decide +kernel
theorem dX7_common_15 : decode cX7_common 15 = .ok (.iload 4, 2) := by decide +kernel
theorem dX7_common_17 : decode cX7_common 17 = .ok (.istore_n 3, 1) := by decide +kernel
theorem dX7_common_18 : decode cX7_common 18 = .ok (.goto (-14), 3) := by decide +kernel
theorem dX7_common_21 : decode cX7_common 21 = .ok (.iload_n 2, 1) := by decide +kernel
theorem dX7_common_22 : decode cX7_common 22 = .ok (.ireturn, 1) := by decide +kernel
def sm_X7_common_4 (K4 : Int32 → Int32 → aw_H → Prop) (Q : aw_R) (x2 : Int32) (x3 : Int32) (h : aw_H) : Prop :=
  if x3 = 0 then (Q (some (.int x2)) h) else (¬ x3 = 0 ∧ (K4 x3 (x2 - x2 / x3 * x3) h))
set_option maxRecDepth 100000 in
set_option maxHeartbeats 4000000 in
theorem bl_X7_common_4 {X : aw_X} {Q : aw_R} (C : aw_C X cX7_common RX7 5 0) (Z : aw_Z X cX7_common (some .int) Q) (x2 : Int32) (x3 : Int32) (h : aw_H) (hh : sm_X7_common_4 (fun (x2 : Int32) (x3 : Int32) (h : aw_H) => Sat X 4 [Value.null, Value.null, .int x2, .int x3, Value.null] [] h) Q x2 x3 h) : Sat X 4 [Value.null, Value.null, .int x2, .int x3, Value.null] [] h := by
  unfold sm_X7_common_4 at hh
  refine ow_iload_n C dX7_common_4 rfl rfl ?_
  refine ow_if_eq (tgt := 21) C dX7_common_5 (by decide) hh (fun hh => ?_) (fun hh => ?_)
  · skip
    refine ow_iload_n C dX7_common_21 rfl rfl ?_
    exact ow_iret Z dX7_common_22 trivial hh
  · skip
    refine ow_iload_n C dX7_common_8 rfl rfl ?_
    refine ow_iload_n C dX7_common_9 rfl rfl ?_
    refine ow_irem C dX7_common_10 hh (fun hh => ?_)
    refine ow_istore (L' := [Value.null, Value.null, .int x2, .int x3, .int (x2 - x2 / x3 * x3)]) C dX7_common_11 (by decide) rfl ?_
    refine ow_iload_n C dX7_common_13 rfl rfl ?_
    refine ow_istore_n (L' := [Value.null, Value.null, .int x3, .int x3, .int (x2 - x2 / x3 * x3)]) C dX7_common_14 rfl (by decide) rfl ?_
    refine ow_iload C dX7_common_15 rfl ?_
    refine ow_istore_n (L' := [Value.null, Value.null, .int x3, .int (x2 - x2 / x3 * x3), .int (x2 - x2 / x3 * x3)]) C dX7_common_17 rfl (by decide) rfl ?_
    refine ow_goto (tgt := 4) C dX7_common_18 (by decide) ?_
    exact Sat.mask hh (mk_n (mk_n (mk_y (mk_y (mk_n mk_0)))))
def sm_X7_common_0 (K4 : Int32 → Int32 → aw_H → Prop) (Q : aw_R) (x0 : Int32) (x1 : Int32) (h : aw_H) : Prop :=
  K4 x0 x1 h
set_option maxRecDepth 100000 in
set_option maxHeartbeats 4000000 in
theorem bl_X7_common_0 {X : aw_X} {Q : aw_R} (C : aw_C X cX7_common RX7 5 0) (Z : aw_Z X cX7_common (some .int) Q) (x0 : Int32) (x1 : Int32) (h : aw_H) (hh : sm_X7_common_0 (fun (x2 : Int32) (x3 : Int32) (h : aw_H) => Sat X 4 [Value.null, Value.null, .int x2, .int x3, Value.null] [] h) Q x0 x1 h) : Sat X 0 [.int x0, .int x1, Value.null, Value.null, Value.null] [] h := by
  unfold sm_X7_common_0 at hh
  refine ow_iload_n C dX7_common_0 rfl rfl ?_
  refine ow_istore_n (L' := [.int x0, .int x1, .int x0, Value.null, Value.null]) C dX7_common_1 rfl (by decide) rfl ?_
  refine ow_iload_n C dX7_common_2 rfl rfl ?_
  refine ow_istore_n (L' := [.int x0, .int x1, .int x0, .int x1, Value.null]) C dX7_common_3 rfl (by decide) rfl ?_
  exact Sat.mask hh (mk_n (mk_n (mk_y (mk_y (mk_n mk_0)))))
def tr_X7_common : aw_T := fun as h Q => ∃ (x0 : Int32) (x1 : Int32), as = [.int x0, .int x1] ∧ (∀ (K4 : Int32 → Int32 → aw_H → Prop), (∀ (x2 : Int32) (x3 : Int32) (h : aw_H), sm_X7_common_4 K4 Q x2 x3 h → K4 x2 x3 h) → sm_X7_common_0 K4 Q x0 x1 h)
theorem tq_X7_common {x0 : Int32} {x1 : Int32} {h : aw_H} {Q : aw_R} : tr_X7_common [.int x0, .int x1] h Q ↔ (∀ (K4 : Int32 → Int32 → aw_H → Prop), (∀ (x2 : Int32) (x3 : Int32) (h : aw_H), sm_X7_common_4 K4 Q x2 x3 h → K4 x2 x3 h) → sm_X7_common_0 K4 Q x0 x1 h) := by
  constructor
  · rintro ⟨_, _, as0, hh⟩
    cases as0
    exact hh
  · intro hh
    exact ⟨_, _, rfl, hh⟩
theorem ct_X7_common (E : aw_F) : CT E yX7_common cX7_common 5 (some .int) 0 tr_X7_common := by
  refine ct_of (by decide) ?_
  intro X Q as h hE C Z hG
  subst hE
  obtain ⟨x0, x1, rfl, hh⟩ := hG
  refine ⟨[.int x0, .int x1, Value.null, Value.null, Value.null], rfl, Nat.le_of_ble_eq_true rfl, ?_⟩
  exact bl_X7_common_0 C Z x0 x1 h (hh (fun (x2 : Int32) (x3 : Int32) (h : aw_H) => Sat X 4 [Value.null, Value.null, .int x2, .int x3, Value.null] [] h) (fun x2 x3 h hh => bl_X7_common_4 C Z x2 x3 h hh))
theorem cs_X7_common (E : aw_F) : CS E yX7_common cX7_common 5 (some .int) 0 2 tr_X7_common := ⟨ct_X7_common E, by decide, kw_738, kw_527, kw_737, by decide +kernel⟩
theorem dX7_order_0 : decode cX7_order 0 = .ok (.aload_n 0, 1) := by decide +kernel
theorem dX7_order_1 : decode cX7_order 1 = .ok (.invokevirtual 167, 3) := by decide +kernel
theorem dX7_order_4 : decode cX7_order 4 = .ok (.iconst 1, 1) := by decide +kernel
theorem dX7_order_5 : decode cX7_order 5 = .ok (.istore_n 1, 1) := by decide +kernel
theorem dX7_order_6 : decode cX7_order 6 = .ok (.iconst 0, 1) := by decide +kernel
theorem dX7_order_7 : decode cX7_order 7 = .ok (.istore_n 2, 1) := by decide +kernel
theorem dX7_order_8 : decode cX7_order 8 = .ok (.iload_n 2, 1) := by decide +kernel
theorem dX7_order_9 : decode cX7_order 9 = .ok (.aload_n 0, 1) := by decide +kernel
theorem dX7_order_10 : decode cX7_order 10 = .ok (.invokevirtual 38, 3) := by decide +kernel
theorem dX7_order_13 : decode cX7_order 13 = .ok (.if_icmp .ge 25, 3) := by decide +kernel
theorem dX7_order_16 : decode cX7_order 16 = .ok (.aload_n 0, 1) := by decide +kernel
theorem dX7_order_17 : decode cX7_order 17 = .ok (.iload_n 2, 1) := by decide +kernel
theorem dX7_order_18 : decode cX7_order 18 = .ok (.invokevirtual 170, 3) := by decide +kernel
theorem dX7_order_21 : decode cX7_order 21 = .ok (.istore_n 3, 1) := by decide +kernel
theorem dX7_order_22 : decode cX7_order 22 = .ok (.iload_n 1, 1) := by decide +kernel
theorem dX7_order_23 : decode cX7_order 23 = .ok (.iload_n 1, 1) := by decide +kernel
theorem dX7_order_24 : decode cX7_order 24 = .ok (.iload_n 3, 1) := by decide +kernel
theorem dX7_order_25 : decode cX7_order 25 = .ok (.invokestatic 179, 3) := by decide +kernel
theorem dX7_order_28 : decode cX7_order 28 = .ok (.idiv, 1) := by decide +kernel
theorem dX7_order_29 : decode cX7_order 29 = .ok (.iload_n 3, 1) := by decide +kernel
theorem dX7_order_30 : decode cX7_order 30 = .ok (.imul, 1) := by decide +kernel
theorem dX7_order_31 : decode cX7_order 31 = .ok (.istore_n 1, 1) := by decide +kernel
theorem dX7_order_32 : decode cX7_order 32 = .ok (.iinc 2 1, 3) := by decide +kernel
theorem dX7_order_35 : decode cX7_order 35 = .ok (.goto (-27), 3) := by decide +kernel
theorem dX7_order_38 : decode cX7_order 38 = .ok (.iload_n 1, 1) := by decide +kernel
theorem dX7_order_39 : decode cX7_order 39 = .ok (.ireturn, 1) := by decide +kernel
def sm_X7_order_8 (K8 : Nat → Int32 → Int32 → aw_H → Prop) (Q : aw_R) (p0 : Nat) (x1 : Int32) (x2 : Int32) (h : aw_H) : Prop :=
  sv_O h p0 6 (tr_X7_states [.ref p0] h fun r2 h1 => sr_I r2 fun v3 => if v3 ≤ x2 then (Q (some (.int x1)) h1) else (sv_O h1 p0 6 (tr_X7_ringOf [.ref p0, .int x2] h1 fun r5 h4 => sr_I r5 fun v6 => tr_X7_common [.int x1, .int v6] h4 fun r8 h7 => sr_I r8 fun v9 => ¬ v9 = 0 ∧ (K8 p0 ((x1 / v9) * v6) (x2 + 1) h7))))
set_option maxRecDepth 100000 in
set_option maxHeartbeats 4000000 in
theorem bl_X7_order_8 {X : aw_X} {Q : aw_R} (C : aw_C X cX7_order RX7 4 6) (Z : aw_Z X cX7_order (some .int) Q) (p0 : Nat) (x1 : Int32) (x2 : Int32) (h : aw_H) (hh : sm_X7_order_8 (fun (p0 : Nat) (x1 : Int32) (x2 : Int32) (h : aw_H) => Sat X 8 [.ref p0, .int x1, .int x2, Value.null] [] h) Q p0 x1 x2 h) : Sat X 8 [.ref p0, .int x1, .int x2, Value.null] [] h := by
  unfold sm_X7_order_8 at hh
  refine ow_iload_n C dX7_order_8 rfl rfl ?_
  refine ow_aload_n C dX7_order_9 rfl rfl ?_
  refine ow_callV C (cv_X7_states _) (Nat.le_of_ble_eq_true rfl) kw_540 dX7_order_10 (as := []) (st := [.int x2]) rfl rfl (Nat.le_of_ble_eq_true rfl) hh (fun r2 h1 hq => ?_)
  obtain ⟨v3, rfl, hh⟩ := sr_I_e hq
  show Sat X 13 [.ref p0, .int x1, .int x2, Value.null] [.int v3, .int x2] h1
  refine ow_icmp_ge (tgt := 38) C dX7_order_13 (by decide) hh (fun hh => ?_) (fun hh => ?_)
  · skip
    refine ow_iload_n C dX7_order_38 rfl rfl ?_
    exact ow_iret Z dX7_order_39 trivial hh
  · skip
    refine ow_aload_n C dX7_order_16 rfl rfl ?_
    refine ow_iload_n C dX7_order_17 rfl rfl ?_
    refine ow_callV C (cv_X7_ringOf _) (Nat.le_of_ble_eq_true rfl) kw_719 dX7_order_18 (as := [.int x2]) (st := []) rfl rfl (Nat.le_of_ble_eq_true rfl) hh (fun r5 h4 hq => ?_)
    obtain ⟨v6, rfl, hh⟩ := sr_I_e hq
    show Sat X 21 [.ref p0, .int x1, .int x2, Value.null] [.int v6] h4
    refine ow_istore_n (L' := [.ref p0, .int x1, .int x2, .int v6]) C dX7_order_21 rfl (by decide) rfl ?_
    refine ow_iload_n C dX7_order_22 rfl rfl ?_
    refine ow_iload_n C dX7_order_23 rfl rfl ?_
    refine ow_iload_n C dX7_order_24 rfl rfl ?_
    refine ow_callS C (cs_X7_common _) (Nat.le_of_ble_eq_true rfl) kw_739 dX7_order_25 (as := [.int x1, .int v6]) (st := [.int x1]) rfl rfl (Nat.le_of_ble_eq_true rfl) hh (fun r8 h7 hq => ?_)
    obtain ⟨v9, rfl, hh⟩ := sr_I_e hq
    show Sat X 28 [.ref p0, .int x1, .int x2, .int v6] [.int v9, .int x1] h7
    refine ow_idiv C dX7_order_28 hh (fun hh => ?_)
    refine ow_iload_n C dX7_order_29 rfl rfl ?_
    refine ow_imul C dX7_order_30 ?_
    refine ow_istore_n (L' := [.ref p0, .int ((x1 / v9) * v6), .int x2, .int v6]) C dX7_order_31 rfl (by decide) rfl ?_
    refine ow_iinc (v := x2 + 1) (L' := [.ref p0, .int ((x1 / v9) * v6), .int (x2 + 1), .int v6]) C dX7_order_32 rfl rfl (by decide) rfl ?_
    refine ow_goto (tgt := 8) C dX7_order_35 (by decide) ?_
    exact Sat.mask hh (mk_y (mk_y (mk_y (mk_n mk_0))))
def sm_X7_order_0 (K8 : Nat → Int32 → Int32 → aw_H → Prop) (Q : aw_R) (p0 : Nat) (h : aw_H) : Prop :=
  sv_O h p0 6 (tr_X7_layRuns [.ref p0] h fun r2 h1 => sr_V r2 <| K8 p0 1 0 h1)
set_option maxRecDepth 100000 in
set_option maxHeartbeats 4000000 in
theorem bl_X7_order_0 {X : aw_X} {Q : aw_R} (C : aw_C X cX7_order RX7 4 6) (Z : aw_Z X cX7_order (some .int) Q) (p0 : Nat) (h : aw_H) (hh : sm_X7_order_0 (fun (p0 : Nat) (x1 : Int32) (x2 : Int32) (h : aw_H) => Sat X 8 [.ref p0, .int x1, .int x2, Value.null] [] h) Q p0 h) : Sat X 0 [.ref p0, Value.null, Value.null, Value.null] [] h := by
  unfold sm_X7_order_0 at hh
  refine ow_aload_n C dX7_order_0 rfl rfl ?_
  refine ow_callV C (cv_X7_layRuns _) (Nat.le_of_ble_eq_true rfl) kw_718 dX7_order_1 (as := []) (st := []) rfl rfl (Nat.le_of_ble_eq_true rfl) hh (fun r2 h1 hq => ?_)
  obtain ⟨rfl, hh⟩ := sr_V_e hq
  show Sat X 4 [.ref p0, Value.null, Value.null, Value.null] [] h1
  refine ow_iconst (v := 1) C dX7_order_4 rfl ?_
  refine ow_istore_n (L' := [.ref p0, .int 1, Value.null, Value.null]) C dX7_order_5 rfl (by decide) rfl ?_
  refine ow_iconst (v := 0) C dX7_order_6 rfl ?_
  refine ow_istore_n (L' := [.ref p0, .int 1, .int 0, Value.null]) C dX7_order_7 rfl (by decide) rfl ?_
  exact Sat.mask hh (mk_y (mk_y (mk_y (mk_n mk_0))))
def tr_X7_order : aw_T := fun as h Q => ∃ (p0 : Nat), as = [.ref p0] ∧ (∀ (K8 : Nat → Int32 → Int32 → aw_H → Prop), (∀ (p0 : Nat) (x1 : Int32) (x2 : Int32) (h : aw_H), sm_X7_order_8 K8 Q p0 x1 x2 h → K8 p0 x1 x2 h) → sm_X7_order_0 K8 Q p0 h)
theorem tq_X7_order {p0 : Nat} {h : aw_H} {Q : aw_R} : tr_X7_order [.ref p0] h Q ↔ (∀ (K8 : Nat → Int32 → Int32 → aw_H → Prop), (∀ (p0 : Nat) (x1 : Int32) (x2 : Int32) (h : aw_H), sm_X7_order_8 K8 Q p0 x1 x2 h → K8 p0 x1 x2 h) → sm_X7_order_0 K8 Q p0 h) := by
  constructor
  · rintro ⟨_, as0, hh⟩
    cases as0
    exact hh
  · intro hh
    exact ⟨_, rfl, hh⟩
theorem ct_X7_order (E : aw_F) : CT E yX7_order cX7_order 4 (some .int) 6 tr_X7_order := by
  refine ct_of (by decide) ?_
  intro X Q as h hE C Z hG
  subst hE
  obtain ⟨p0, rfl, hh⟩ := hG
  refine ⟨[.ref p0, Value.null, Value.null, Value.null], rfl, Nat.le_of_ble_eq_true rfl, ?_⟩
  exact bl_X7_order_0 C Z p0 h (hh (fun (p0 : Nat) (x1 : Int32) (x2 : Int32) (h : aw_H) => Sat X 8 [.ref p0, .int x1, .int x2, Value.null] [] h) (fun p0 x1 x2 h hh => bl_X7_order_8 C Z p0 x1 x2 h hh))
theorem cv_X7_order (E : aw_F) : CV E yX7_order cX7_order 4 (some .int) 6 0 6 tr_X7_order := ⟨ct_X7_order E, by decide, kw_741, kw_742, kw_527, kw_740, by decide +kernel, _, _, rfl⟩
theorem dX7_odd_0 : decode cX7_odd 0 = .ok (.aload_n 0, 1) := by decide +kernel
theorem dX7_odd_1 : decode cX7_odd 1 = .ok (.invokevirtual 167, 3) := by decide +kernel
theorem dX7_odd_4 : decode cX7_odd 4 = .ok (.aload_n 0, 1) := by decide +kernel
theorem dX7_odd_5 : decode cX7_odd 5 = .ok (.invokevirtual 38, 3) := by decide +kernel
theorem dX7_odd_8 : decode cX7_odd 8 = .ok (.aload_n 0, 1) := by decide +kernel
theorem dX7_odd_9 : decode cX7_odd 9 = .ok (.invokevirtual 176, 3) := by decide +kernel
theorem dX7_odd_12 : decode cX7_odd 12 = .ok (.isub, 1) := by decide +kernel
theorem dX7_odd_13 : decode cX7_odd 13 = .ok (.iconst 2, 1) := by decide +kernel
theorem dX7_odd_14 : decode cX7_odd 14 = .ok (.irem, 1) := by decide +kernel
theorem dX7_odd_15 : decode cX7_odd 15 = .ok (.ireturn, 1) := by decide +kernel
def sm_X7_odd_0  (Q : aw_R) (p0 : Nat) (h : aw_H) : Prop :=
  sv_O h p0 6 (tr_X7_layRuns [.ref p0] h fun r2 h1 => sr_V r2 <| sv_O h1 p0 6 (tr_X7_states [.ref p0] h1 fun r4 h3 => sr_I r4 fun v5 => sv_O h3 p0 6 (tr_X7_ringMany [.ref p0] h3 fun r7 h6 => sr_I r7 fun v8 => ¬ (2 : Int32) = 0 ∧ (Q (some (.int ((v5 - v8) - (v5 - v8) / 2 * 2))) h6))))
set_option maxRecDepth 100000 in
set_option maxHeartbeats 4000000 in
theorem bl_X7_odd_0 {X : aw_X} {Q : aw_R} (C : aw_C X cX7_odd RX7 1 6) (Z : aw_Z X cX7_odd (some .int) Q) (p0 : Nat) (h : aw_H) (hh : sm_X7_odd_0  Q p0 h) : Sat X 0 [.ref p0] [] h := by
  unfold sm_X7_odd_0 at hh
  refine ow_aload_n C dX7_odd_0 rfl rfl ?_
  refine ow_callV C (cv_X7_layRuns _) (Nat.le_of_ble_eq_true rfl) kw_718 dX7_odd_1 (as := []) (st := []) rfl rfl (Nat.le_of_ble_eq_true rfl) hh (fun r2 h1 hq => ?_)
  obtain ⟨rfl, hh⟩ := sr_V_e hq
  show Sat X 4 [.ref p0] [] h1
  refine ow_aload_n C dX7_odd_4 rfl rfl ?_
  refine ow_callV C (cv_X7_states _) (Nat.le_of_ble_eq_true rfl) kw_540 dX7_odd_5 (as := []) (st := []) rfl rfl (Nat.le_of_ble_eq_true rfl) hh (fun r4 h3 hq => ?_)
  obtain ⟨v5, rfl, hh⟩ := sr_I_e hq
  show Sat X 8 [.ref p0] [.int v5] h3
  refine ow_aload_n C dX7_odd_8 rfl rfl ?_
  refine ow_callV C (cv_X7_ringMany _) (Nat.le_of_ble_eq_true rfl) kw_733 dX7_odd_9 (as := []) (st := [.int v5]) rfl rfl (Nat.le_of_ble_eq_true rfl) hh (fun r7 h6 hq => ?_)
  obtain ⟨v8, rfl, hh⟩ := sr_I_e hq
  show Sat X 12 [.ref p0] [.int v8, .int v5] h6
  refine ow_isub C dX7_odd_12 ?_
  refine ow_iconst (v := 2) C dX7_odd_13 rfl ?_
  refine ow_irem C dX7_odd_14 hh (fun hh => ?_)
  exact ow_iret Z dX7_odd_15 trivial hh
def tr_X7_odd : aw_T := fun as h Q => ∃ (p0 : Nat), as = [.ref p0] ∧ (sm_X7_odd_0  Q p0 h)
theorem tq_X7_odd {p0 : Nat} {h : aw_H} {Q : aw_R} : tr_X7_odd [.ref p0] h Q ↔ (sm_X7_odd_0  Q p0 h) := by
  constructor
  · rintro ⟨_, as0, hh⟩
    cases as0
    exact hh
  · intro hh
    exact ⟨_, rfl, hh⟩
theorem ct_X7_odd (E : aw_F) : CT E yX7_odd cX7_odd 1 (some .int) 6 tr_X7_odd := by
  refine ct_of (by decide) ?_
  intro X Q as h hE C Z hG
  subst hE
  obtain ⟨p0, rfl, hh⟩ := hG
  refine ⟨[.ref p0], rfl, Nat.le_of_ble_eq_true rfl, ?_⟩
  exact bl_X7_odd_0 C Z p0 h hh
theorem cv_X7_odd (E : aw_F) : CV E yX7_odd cX7_odd 1 (some .int) 6 0 6 tr_X7_odd := ⟨ct_X7_odd E, by decide, kw_744, kw_745, kw_527, kw_743, by decide +kernel, _, _, rfl⟩
theorem dX7_isSame_0 : decode cX7_isSame 0 = .ok (.iconst 1, 1) := by decide +kernel
theorem dX7_isSame_1 : decode cX7_isSame 1 = .ok (.istore_n 1, 1) := by decide +kernel
theorem dX7_isSame_2 : decode cX7_isSame 2 = .ok (.iconst 0, 1) := by decide +kernel
theorem dX7_isSame_3 : decode cX7_isSame 3 = .ok (.istore_n 2, 1) := by decide +kernel
theorem dX7_isSame_4 : decode cX7_isSame 4 = .ok (.iload_n 2, 1) := by decide +kernel
theorem dX7_isSame_5 : decode cX7_isSame 5 = .ok (.aload_n 0, 1) := by decide +kernel
theorem dX7_isSame_6 : decode cX7_isSame 6 = .ok (.invokevirtual 38, 3) := by decide +kernel
theorem dX7_isSame_9 : decode cX7_isSame 9 = .ok (.if_icmp .ge 36, 3) := by decide +kernel
theorem dX7_isSame_12 : decode cX7_isSame 12 = .ok (.iload_n 1, 1) := by decide +kernel
theorem dX7_isSame_13 : decode cX7_isSame 13 = .ok (.ifCond .eq 32, 3) := by decide +kernel
theorem dX7_isSame_16 : decode cX7_isSame 16 = .ok (.aload_n 0, 1) := by decide +kernel
theorem dX7_isSame_17 : decode cX7_isSame 17 = .ok (.sipush 1532, 3) := by decide +kernel
theorem dX7_isSame_20 : decode cX7_isSame 20 = .ok (.iload_n 2, 1) := by decide +kernel
theorem dX7_isSame_21 : decode cX7_isSame 21 = .ok (.invokevirtual 163, 3) := by decide +kernel
theorem dX7_isSame_24 : decode cX7_isSame 24 = .ok (.aload_n 0, 1) := by decide +kernel
theorem dX7_isSame_25 : decode cX7_isSame 25 = .ok (.getfield 26, 3) := by decide +kernel
theorem dX7_isSame_28 : decode cX7_isSame 28 = .ok (.iload_n 2, 1) := by decide +kernel
theorem dX7_isSame_29 : decode cX7_isSame 29 = .ok (.iaload, 1) := by decide +kernel
theorem dX7_isSame_30 : decode cX7_isSame 30 = .ok (.if_icmp .ne 7, 3) := by decide +kernel
theorem dX7_isSame_33 : decode cX7_isSame 33 = .ok (.iconst 1, 1) := by decide +kernel
theorem dX7_isSame_34 : decode cX7_isSame 34 = .ok (.goto 4, 3) := by decide +kernel
theorem dX7_isSame_37 : decode cX7_isSame 37 = .ok (.iconst 0, 1) := by decide +kernel
theorem dX7_isSame_38 : decode cX7_isSame 38 = .ok (.istore_n 1, 1) := by decide +kernel
theorem dX7_isSame_39 : decode cX7_isSame 39 = .ok (.iinc 2 1, 3) := by decide +kernel
theorem dX7_isSame_42 : decode cX7_isSame 42 = .ok (.goto (-38), 3) := by decide +kernel
theorem dX7_isSame_45 : decode cX7_isSame 45 = .ok (.iload_n 1, 1) := by decide +kernel
theorem dX7_isSame_46 : decode cX7_isSame 46 = .ok (.ireturn, 1) := by decide +kernel
def sm_X7_isSame_4 (K4 : Nat → Int32 → Int32 → aw_H → Prop) (Q : aw_R) (p0 : Nat) (x1 : Int32) (x2 : Int32) (h : aw_H) : Prop :=
  sv_O h p0 6 (tr_X7_states [.ref p0] h fun r2 h1 => sr_I r2 fun v3 => if v3 ≤ x2 then ((x1 = 0 ∨ x1 = 1) ∧ Q (some (.int x1)) h1) else (if x1 = 0 then ((x1 = 0 ∨ x1 = 1) ∧ Q (some (.int x1)) h1) else (sv_O h1 p0 6 (tr_X7_runIn [.ref p0, .int 1532, .int x2] h1 fun r5 h4 => sr_I r5 fun v6 => sg_R h4 p0 6 7 fun q7 => sa_I h4 q7 x2 fun v8 => if ¬ v6 = v8 then (K4 p0 0 (x2 + 1) h4) else (K4 p0 1 (x2 + 1) h4)))))
set_option maxRecDepth 100000 in
set_option maxHeartbeats 4000000 in
theorem bl_X7_isSame_4 {X : aw_X} {Q : aw_R} (C : aw_C X cX7_isSame RX7 3 5) (Z : aw_Z X cX7_isSame (some .boolean) Q) (p0 : Nat) (x1 : Int32) (x2 : Int32) (h : aw_H) (hh : sm_X7_isSame_4 (fun (p0 : Nat) (x1 : Int32) (x2 : Int32) (h : aw_H) => Sat X 4 [.ref p0, .int x1, .int x2] [] h) Q p0 x1 x2 h) : Sat X 4 [.ref p0, .int x1, .int x2] [] h := by
  unfold sm_X7_isSame_4 at hh
  refine ow_iload_n C dX7_isSame_4 rfl rfl ?_
  refine ow_aload_n C dX7_isSame_5 rfl rfl ?_
  refine ow_callV C (cv_X7_states _) (Nat.le_of_ble_eq_true rfl) kw_540 dX7_isSame_6 (as := []) (st := [.int x2]) rfl rfl (Nat.le_of_ble_eq_true rfl) hh (fun r2 h1 hq => ?_)
  obtain ⟨v3, rfl, hh⟩ := sr_I_e hq
  show Sat X 9 [.ref p0, .int x1, .int x2] [.int v3, .int x2] h1
  refine ow_icmp_ge (tgt := 45) C dX7_isSame_9 (by decide) hh (fun hh => ?_) (fun hh => ?_)
  · skip
    refine ow_iload_n C dX7_isSame_45 rfl rfl ?_
    exact ow_iret Z dX7_isSame_46 hh.1 hh.2
  · skip
    refine ow_iload_n C dX7_isSame_12 rfl rfl ?_
    refine ow_if_eq (tgt := 45) C dX7_isSame_13 (by decide) hh (fun hh => ?_) (fun hh => ?_)
    · skip
      refine ow_iload_n C dX7_isSame_45 rfl rfl ?_
      exact ow_iret Z dX7_isSame_46 hh.1 hh.2
    · skip
      refine ow_aload_n C dX7_isSame_16 rfl rfl ?_
      refine ow_sipush (v := 1532) C dX7_isSame_17 rfl ?_
      refine ow_iload_n C dX7_isSame_20 rfl rfl ?_
      refine ow_callV C (cv_X7_runIn _) (Nat.le_of_ble_eq_true rfl) kw_707 dX7_isSame_21 (as := [.int 1532, .int x2]) (st := []) rfl rfl (Nat.le_of_ble_eq_true rfl) hh (fun r5 h4 hq => ?_)
      obtain ⟨v6, rfl, hh⟩ := sr_I_e hq
      show Sat X 24 [.ref p0, .int x1, .int x2] [.int v6] h4
      refine ow_aload_n C dX7_isSame_24 rfl rfl ?_
      refine ow_getR (ci := 6) (k := 7) (T := TX7) C rfl igX7 (by decide) kw_706 dX7_isSame_25 hh (fun q7 hh => ?_)
      refine ow_iload_n C dX7_isSame_28 rfl rfl ?_
      refine ow_iaload C dX7_isSame_29 hh (fun v8 hh => ?_)
      refine ow_icmp_ne (tgt := 37) C dX7_isSame_30 (by decide) hh (fun hh => ?_) (fun hh => ?_)
      · skip
        refine ow_iconst (v := 0) C dX7_isSame_37 rfl ?_
        refine ow_istore_n (L' := [.ref p0, .int 0, .int x2]) C dX7_isSame_38 rfl (by decide) rfl ?_
        refine ow_iinc (v := x2 + 1) (L' := [.ref p0, .int 0, .int (x2 + 1)]) C dX7_isSame_39 rfl rfl (by decide) rfl ?_
        refine ow_goto (tgt := 4) C dX7_isSame_42 (by decide) ?_
        exact Sat.mask hh (mk_y (mk_y (mk_y mk_0)))
      · skip
        refine ow_iconst (v := 1) C dX7_isSame_33 rfl ?_
        refine ow_goto (tgt := 38) C dX7_isSame_34 (by decide) ?_
        refine ow_istore_n (L' := [.ref p0, .int 1, .int x2]) C dX7_isSame_38 rfl (by decide) rfl ?_
        refine ow_iinc (v := x2 + 1) (L' := [.ref p0, .int 1, .int (x2 + 1)]) C dX7_isSame_39 rfl rfl (by decide) rfl ?_
        refine ow_goto (tgt := 4) C dX7_isSame_42 (by decide) ?_
        exact Sat.mask hh (mk_y (mk_y (mk_y mk_0)))
def sm_X7_isSame_0 (K4 : Nat → Int32 → Int32 → aw_H → Prop) (Q : aw_R) (p0 : Nat) (h : aw_H) : Prop :=
  K4 p0 1 0 h
set_option maxRecDepth 100000 in
set_option maxHeartbeats 4000000 in
theorem bl_X7_isSame_0 {X : aw_X} {Q : aw_R} (C : aw_C X cX7_isSame RX7 3 5) (Z : aw_Z X cX7_isSame (some .boolean) Q) (p0 : Nat) (h : aw_H) (hh : sm_X7_isSame_0 (fun (p0 : Nat) (x1 : Int32) (x2 : Int32) (h : aw_H) => Sat X 4 [.ref p0, .int x1, .int x2] [] h) Q p0 h) : Sat X 0 [.ref p0, Value.null, Value.null] [] h := by
  unfold sm_X7_isSame_0 at hh
  refine ow_iconst (v := 1) C dX7_isSame_0 rfl ?_
  refine ow_istore_n (L' := [.ref p0, .int 1, Value.null]) C dX7_isSame_1 rfl (by decide) rfl ?_
  refine ow_iconst (v := 0) C dX7_isSame_2 rfl ?_
  refine ow_istore_n (L' := [.ref p0, .int 1, .int 0]) C dX7_isSame_3 rfl (by decide) rfl ?_
  exact Sat.mask hh (mk_y (mk_y (mk_y mk_0)))
def tr_X7_isSame : aw_T := fun as h Q => ∃ (p0 : Nat), as = [.ref p0] ∧ (∀ (K4 : Nat → Int32 → Int32 → aw_H → Prop), (∀ (p0 : Nat) (x1 : Int32) (x2 : Int32) (h : aw_H), sm_X7_isSame_4 K4 Q p0 x1 x2 h → K4 p0 x1 x2 h) → sm_X7_isSame_0 K4 Q p0 h)
theorem tq_X7_isSame {p0 : Nat} {h : aw_H} {Q : aw_R} : tr_X7_isSame [.ref p0] h Q ↔ (∀ (K4 : Nat → Int32 → Int32 → aw_H → Prop), (∀ (p0 : Nat) (x1 : Int32) (x2 : Int32) (h : aw_H), sm_X7_isSame_4 K4 Q p0 x1 x2 h → K4 p0 x1 x2 h) → sm_X7_isSame_0 K4 Q p0 h) := by
  constructor
  · rintro ⟨_, as0, hh⟩
    cases as0
    exact hh
  · intro hh
    exact ⟨_, rfl, hh⟩
theorem ct_X7_isSame (E : aw_F) : CT E yX7_isSame cX7_isSame 3 (some .boolean) 5 tr_X7_isSame := by
  refine ct_of (by decide) ?_
  intro X Q as h hE C Z hG
  subst hE
  obtain ⟨p0, rfl, hh⟩ := hG
  refine ⟨[.ref p0, Value.null, Value.null], rfl, Nat.le_of_ble_eq_true rfl, ?_⟩
  exact bl_X7_isSame_0 C Z p0 h (hh (fun (p0 : Nat) (x1 : Int32) (x2 : Int32) (h : aw_H) => Sat X 4 [.ref p0, .int x1, .int x2] [] h) (fun p0 x1 x2 h hh => bl_X7_isSame_4 C Z p0 x1 x2 h hh))
theorem cv_X7_isSame (E : aw_F) : CV E yX7_isSame cX7_isSame 3 (some .boolean) 5 0 6 tr_X7_isSame := ⟨ct_X7_isSame E, by decide, kw_747, kw_748, kw_527, kw_746, by decide +kernel, _, _, rfl⟩
theorem dX7_beginTry_0 : decode cX7_beginTry 0 = .ok (.aload_n 0, 1) := by decide +kernel
theorem dX7_beginTry_1 : decode cX7_beginTry 1 = .ok (.iconst 0, 1) := by decide +kernel
theorem dX7_beginTry_2 : decode cX7_beginTry 2 = .ok (.sipush 1532, 3) := by decide +kernel
theorem dX7_beginTry_5 : decode cX7_beginTry 5 = .ok (.bipush 85, 2) := by decide +kernel
theorem dX7_beginTry_7 : decode cX7_beginTry 7 = .ok (.invokevirtual 140, 3) := by decide +kernel
theorem dX7_beginTry_10 : decode cX7_beginTry 10 = .ok (.return_, 1) := by decide +kernel
def sm_X7_beginTry_0  (Q : aw_R) (p0 : Nat) (h : aw_H) : Prop :=
  sv_O h p0 6 (tr_X7_copyRow [.ref p0, .int 0, .int 1532, .int 85] h fun r2 h1 => sr_V r2 <| Q none h1)
set_option maxRecDepth 100000 in
set_option maxHeartbeats 4000000 in
theorem bl_X7_beginTry_0 {X : aw_X} {Q : aw_R} (C : aw_C X cX7_beginTry RX7 1 1) (Z : aw_Z X cX7_beginTry none Q) (p0 : Nat) (h : aw_H) (hh : sm_X7_beginTry_0  Q p0 h) : Sat X 0 [.ref p0] [] h := by
  unfold sm_X7_beginTry_0 at hh
  refine ow_aload_n C dX7_beginTry_0 rfl rfl ?_
  refine ow_iconst (v := 0) C dX7_beginTry_1 rfl ?_
  refine ow_sipush (v := 1532) C dX7_beginTry_2 rfl ?_
  refine ow_bipush (v := 85) C dX7_beginTry_5 rfl ?_
  refine ow_callV C (cv_X7_copyRow _) (Nat.le_of_ble_eq_true rfl) kw_652 dX7_beginTry_7 (as := [.int 0, .int 1532, .int 85]) (st := []) rfl rfl (Nat.le_of_ble_eq_true rfl) hh (fun r2 h1 hq => ?_)
  obtain ⟨rfl, hh⟩ := sr_V_e hq
  show Sat X 10 [.ref p0] [] h1
  exact ow_vret Z dX7_beginTry_10 trivial hh
def tr_X7_beginTry : aw_T := fun as h Q => ∃ (p0 : Nat), as = [.ref p0] ∧ (sm_X7_beginTry_0  Q p0 h)
theorem tq_X7_beginTry {p0 : Nat} {h : aw_H} {Q : aw_R} : tr_X7_beginTry [.ref p0] h Q ↔ (sm_X7_beginTry_0  Q p0 h) := by
  constructor
  · rintro ⟨_, as0, hh⟩
    cases as0
    exact hh
  · intro hh
    exact ⟨_, rfl, hh⟩
theorem ct_X7_beginTry (E : aw_F) : CT E yX7_beginTry cX7_beginTry 1 none 1 tr_X7_beginTry := by
  refine ct_of (by decide) ?_
  intro X Q as h hE C Z hG
  subst hE
  obtain ⟨p0, rfl, hh⟩ := hG
  refine ⟨[.ref p0], rfl, Nat.le_of_ble_eq_true rfl, ?_⟩
  exact bl_X7_beginTry_0 C Z p0 h hh
theorem cv_X7_beginTry (E : aw_F) : CV E yX7_beginTry cX7_beginTry 1 none 1 0 6 tr_X7_beginTry := ⟨ct_X7_beginTry E, by decide, kw_750, kw_751, kw_527, kw_749, by decide +kernel, _, _, rfl⟩
theorem dX7_alike_0 : decode cX7_alike 0 = .ok (.aload_n 0, 1) := by decide +kernel
theorem dX7_alike_1 : decode cX7_alike 1 = .ok (.iload_n 1, 1) := by decide +kernel
theorem dX7_alike_2 : decode cX7_alike 2 = .ok (.invokevirtual 66, 3) := by decide +kernel
theorem dX7_alike_5 : decode cX7_alike 5 = .ok (.ifCond .eq 16, 3) := by decide +kernel
theorem dX7_alike_8 : decode cX7_alike 8 = .ok (.aload_n 0, 1) := by decide +kernel
theorem dX7_alike_9 : decode cX7_alike 9 = .ok (.iload_n 2, 1) := by decide +kernel
theorem dX7_alike_10 : decode cX7_alike 10 = .ok (.invokevirtual 66, 3) := by decide +kernel
theorem dX7_alike_13 : decode cX7_alike 13 = .ok (.ifCond .eq 8, 3) := by decide +kernel
theorem dX7_alike_16 : decode cX7_alike 16 = .ok (.iload_n 1, 1) := by decide +kernel
theorem dX7_alike_17 : decode cX7_alike 17 = .ok (.iload_n 2, 1) := by decide +kernel
theorem dX7_alike_18 : decode cX7_alike 18 = .ok (.if_icmp .ne 5, 3) := by decide +kernel
theorem dX7_alike_21 : decode cX7_alike 21 = .ok (.iconst (-1), 1) := by decide +kernel
theorem dX7_alike_22 : decode cX7_alike 22 = .ok (.ireturn, 1) := by decide +kernel
theorem dX7_alike_23 : decode cX7_alike 23 = .ok (.aload_n 0, 1) := by decide +kernel
theorem dX7_alike_24 : decode cX7_alike 24 = .ok (.invokevirtual 167, 3) := by decide +kernel
theorem dX7_alike_27 : decode cX7_alike 27 = .ok (.aload_n 0, 1) := by decide +kernel
theorem dX7_alike_28 : decode cX7_alike 28 = .ok (.invokevirtual 182, 3) := by decide +kernel
theorem dX7_alike_31 : decode cX7_alike 31 = .ok (.aload_n 0, 1) := by decide +kernel
theorem dX7_alike_32 : decode cX7_alike 32 = .ok (.sipush 1532, 3) := by decide +kernel
theorem dX7_alike_35 : decode cX7_alike 35 = .ok (.iload_n 1, 1) := by decide +kernel
theorem dX7_alike_36 : decode cX7_alike 36 = .ok (.iload_n 2, 1) := by decide +kernel
theorem dX7_alike_37 : decode cX7_alike 37 = .ok (.invokevirtual 153, 3) := by decide +kernel
theorem dX7_alike_40 : decode cX7_alike 40 = .ok (.aload_n 0, 1) := by decide +kernel
theorem dX7_alike_41 : decode cX7_alike 41 = .ok (.invokevirtual 185, 3) := by decide +kernel
theorem dX7_alike_44 : decode cX7_alike 44 = .ok (.ifCond .eq 7, 3) := by decide +kernel
theorem dX7_alike_47 : decode cX7_alike 47 = .ok (.iconst 1, 1) := by decide +kernel
theorem dX7_alike_48 : decode cX7_alike 48 = .ok (.goto 4, 3) := by decide +kernel
theorem dX7_alike_51 : decode cX7_alike 51 = .ok (.iconst 0, 1) := by decide +kernel
theorem dX7_alike_52 : decode cX7_alike 52 = .ok (.ireturn, 1) := by decide +kernel
def sm_X7_alike_0  (Q : aw_R) (p0 : Nat) (x1 : Int32) (x2 : Int32) (h : aw_H) : Prop :=
  sv_O h p0 6 (tr_X7_isGate [.ref p0, .int x1] h fun r2 h1 => sr_I r2 fun v3 => if v3 = 0 then (Q (some (.int ((-1)))) h1) else (sv_O h1 p0 6 (tr_X7_isGate [.ref p0, .int x2] h1 fun r5 h4 => sr_I r5 fun v6 => if v6 = 0 then (Q (some (.int ((-1)))) h4) else (if ¬ x1 = x2 then (sv_O h4 p0 6 (tr_X7_layRuns [.ref p0] h4 fun r8 h7 => sr_V r8 <| sv_O h7 p0 6 (tr_X7_beginTry [.ref p0] h7 fun r10 h9 => sr_V r10 <| sv_O h9 p0 6 (tr_X7_swapIn [.ref p0, .int 1532, .int x1, .int x2] h9 fun r12 h11 => sr_V r12 <| sv_O h11 p0 6 (tr_X7_isSame [.ref p0] h11 fun r14 h13 => sr_I r14 fun v15 => if v15 = 0 then (Q (some (.int 0)) h13) else (Q (some (.int 1)) h13)))))) else (Q (some (.int ((-1)))) h4)))))
set_option maxRecDepth 100000 in
set_option maxHeartbeats 4000000 in
theorem bl_X7_alike_0 {X : aw_X} {Q : aw_R} (C : aw_C X cX7_alike RX7 3 6) (Z : aw_Z X cX7_alike (some .int) Q) (p0 : Nat) (x1 : Int32) (x2 : Int32) (h : aw_H) (hh : sm_X7_alike_0  Q p0 x1 x2 h) : Sat X 0 [.ref p0, .int x1, .int x2] [] h := by
  unfold sm_X7_alike_0 at hh
  refine ow_aload_n C dX7_alike_0 rfl rfl ?_
  refine ow_iload_n C dX7_alike_1 rfl rfl ?_
  refine ow_callV C (cv_X7_isGate _) (Nat.le_of_ble_eq_true rfl) kw_572 dX7_alike_2 (as := [.int x1]) (st := []) rfl rfl (Nat.le_of_ble_eq_true rfl) hh (fun r2 h1 hq => ?_)
  obtain ⟨v3, rfl, hh⟩ := sr_I_e hq
  show Sat X 5 [.ref p0, .int x1, .int x2] [.int v3] h1
  refine ow_if_eq (tgt := 21) C dX7_alike_5 (by decide) hh (fun hh => ?_) (fun hh => ?_)
  · skip
    refine ow_iconst (v := (-1)) C dX7_alike_21 rfl ?_
    exact ow_iret Z dX7_alike_22 trivial hh
  · skip
    refine ow_aload_n C dX7_alike_8 rfl rfl ?_
    refine ow_iload_n C dX7_alike_9 rfl rfl ?_
    refine ow_callV C (cv_X7_isGate _) (Nat.le_of_ble_eq_true rfl) kw_572 dX7_alike_10 (as := [.int x2]) (st := []) rfl rfl (Nat.le_of_ble_eq_true rfl) hh (fun r5 h4 hq => ?_)
    obtain ⟨v6, rfl, hh⟩ := sr_I_e hq
    show Sat X 13 [.ref p0, .int x1, .int x2] [.int v6] h4
    refine ow_if_eq (tgt := 21) C dX7_alike_13 (by decide) hh (fun hh => ?_) (fun hh => ?_)
    · skip
      refine ow_iconst (v := (-1)) C dX7_alike_21 rfl ?_
      exact ow_iret Z dX7_alike_22 trivial hh
    · skip
      refine ow_iload_n C dX7_alike_16 rfl rfl ?_
      refine ow_iload_n C dX7_alike_17 rfl rfl ?_
      refine ow_icmp_ne (tgt := 23) C dX7_alike_18 (by decide) hh (fun hh => ?_) (fun hh => ?_)
      · skip
        refine ow_aload_n C dX7_alike_23 rfl rfl ?_
        refine ow_callV C (cv_X7_layRuns _) (Nat.le_of_ble_eq_true rfl) kw_718 dX7_alike_24 (as := []) (st := []) rfl rfl (Nat.le_of_ble_eq_true rfl) hh (fun r8 h7 hq => ?_)
        obtain ⟨rfl, hh⟩ := sr_V_e hq
        show Sat X 27 [.ref p0, .int x1, .int x2] [] h7
        refine ow_aload_n C dX7_alike_27 rfl rfl ?_
        refine ow_callV C (cv_X7_beginTry _) (Nat.le_of_ble_eq_true rfl) kw_752 dX7_alike_28 (as := []) (st := []) rfl rfl (Nat.le_of_ble_eq_true rfl) hh (fun r10 h9 hq => ?_)
        obtain ⟨rfl, hh⟩ := sr_V_e hq
        show Sat X 31 [.ref p0, .int x1, .int x2] [] h9
        refine ow_aload_n C dX7_alike_31 rfl rfl ?_
        refine ow_sipush (v := 1532) C dX7_alike_32 rfl ?_
        refine ow_iload_n C dX7_alike_35 rfl rfl ?_
        refine ow_iload_n C dX7_alike_36 rfl rfl ?_
        refine ow_callV C (cv_X7_swapIn _) (Nat.le_of_ble_eq_true rfl) kw_686 dX7_alike_37 (as := [.int 1532, .int x1, .int x2]) (st := []) rfl rfl (Nat.le_of_ble_eq_true rfl) hh (fun r12 h11 hq => ?_)
        obtain ⟨rfl, hh⟩ := sr_V_e hq
        show Sat X 40 [.ref p0, .int x1, .int x2] [] h11
        refine ow_aload_n C dX7_alike_40 rfl rfl ?_
        refine ow_callV C (cv_X7_isSame _) (Nat.le_of_ble_eq_true rfl) kw_753 dX7_alike_41 (as := []) (st := []) rfl rfl (Nat.le_of_ble_eq_true rfl) hh (fun r14 h13 hq => ?_)
        obtain ⟨v15, rfl, hh⟩ := sr_I_e hq
        show Sat X 44 [.ref p0, .int x1, .int x2] [.int v15] h13
        refine ow_if_eq (tgt := 51) C dX7_alike_44 (by decide) hh (fun hh => ?_) (fun hh => ?_)
        · skip
          refine ow_iconst (v := 0) C dX7_alike_51 rfl ?_
          exact ow_iret Z dX7_alike_52 trivial hh
        · skip
          refine ow_iconst (v := 1) C dX7_alike_47 rfl ?_
          refine ow_goto (tgt := 52) C dX7_alike_48 (by decide) ?_
          exact ow_iret Z dX7_alike_52 trivial hh
      · skip
        refine ow_iconst (v := (-1)) C dX7_alike_21 rfl ?_
        exact ow_iret Z dX7_alike_22 trivial hh
def tr_X7_alike : aw_T := fun as h Q => ∃ (p0 : Nat) (x1 : Int32) (x2 : Int32), as = [.ref p0, .int x1, .int x2] ∧ (sm_X7_alike_0  Q p0 x1 x2 h)
theorem tq_X7_alike {p0 : Nat} {x1 : Int32} {x2 : Int32} {h : aw_H} {Q : aw_R} : tr_X7_alike [.ref p0, .int x1, .int x2] h Q ↔ (sm_X7_alike_0  Q p0 x1 x2 h) := by
  constructor
  · rintro ⟨_, _, _, as0, hh⟩
    cases as0
    exact hh
  · intro hh
    exact ⟨_, _, _, rfl, hh⟩
theorem ct_X7_alike (E : aw_F) : CT E yX7_alike cX7_alike 3 (some .int) 6 tr_X7_alike := by
  refine ct_of (by decide) ?_
  intro X Q as h hE C Z hG
  subst hE
  obtain ⟨p0, x1, x2, rfl, hh⟩ := hG
  refine ⟨[.ref p0, .int x1, .int x2], rfl, Nat.le_of_ble_eq_true rfl, ?_⟩
  exact bl_X7_alike_0 C Z p0 x1 x2 h hh
theorem cv_X7_alike (E : aw_F) : CV E yX7_alike cX7_alike 3 (some .int) 6 2 6 tr_X7_alike := ⟨ct_X7_alike E, by decide, kw_755, kw_756, kw_527, kw_754, by decide +kernel, _, _, rfl⟩
theorem dX7_killIn_0 : decode cX7_killIn 0 = .ok (.aload_n 0, 1) := by decide +kernel
theorem dX7_killIn_1 : decode cX7_killIn 1 = .ok (.getfield 7, 3) := by decide +kernel
theorem dX7_killIn_4 : decode cX7_killIn 4 = .ok (.sipush 1537, 3) := by decide +kernel
theorem dX7_killIn_7 : decode cX7_killIn 7 = .ok (.iconst 5, 1) := by decide +kernel
theorem dX7_killIn_8 : decode cX7_killIn 8 = .ok (.iload_n 1, 1) := by decide +kernel
theorem dX7_killIn_9 : decode cX7_killIn 9 = .ok (.imul, 1) := by decide +kernel
theorem dX7_killIn_10 : decode cX7_killIn 10 = .ok (.iadd, 1) := by decide +kernel
theorem dX7_killIn_11 : decode cX7_killIn 11 = .ok (.iconst 4, 1) := by decide +kernel
theorem dX7_killIn_12 : decode cX7_killIn 12 = .ok (.iadd, 1) := by decide +kernel
theorem dX7_killIn_13 : decode cX7_killIn 13 = .ok (.iconst 1, 1) := by decide +kernel
theorem dX7_killIn_14 : decode cX7_killIn 14 = .ok (.iastore, 1) := by decide +kernel
theorem dX7_killIn_15 : decode cX7_killIn 15 = .ok (.return_, 1) := by decide +kernel
def sm_X7_killIn_0  (Q : aw_R) (p0 : Nat) (x1 : Int32) (h : aw_H) : Prop :=
  sg_R h p0 6 0 fun q1 => ss_I h q1 ((1537 + (5 * x1)) + 4) 1 fun h2 => Q none h2
set_option maxRecDepth 100000 in
set_option maxHeartbeats 4000000 in
theorem bl_X7_killIn_0 {X : aw_X} {Q : aw_R} (C : aw_C X cX7_killIn RX7 2 0) (Z : aw_Z X cX7_killIn none Q) (p0 : Nat) (x1 : Int32) (h : aw_H) (hh : sm_X7_killIn_0  Q p0 x1 h) : Sat X 0 [.ref p0, .int x1] [] h := by
  unfold sm_X7_killIn_0 at hh
  refine ow_aload_n C dX7_killIn_0 rfl rfl ?_
  refine ow_getR (ci := 6) (k := 0) (T := TX7) C rfl igX7 (by decide) kw_533 dX7_killIn_1 hh (fun q1 hh => ?_)
  refine ow_sipush (v := 1537) C dX7_killIn_4 rfl ?_
  refine ow_iconst (v := 5) C dX7_killIn_7 rfl ?_
  refine ow_iload_n C dX7_killIn_8 rfl rfl ?_
  refine ow_imul C dX7_killIn_9 ?_
  refine ow_iadd C dX7_killIn_10 ?_
  refine ow_iconst (v := 4) C dX7_killIn_11 rfl ?_
  refine ow_iadd C dX7_killIn_12 ?_
  refine ow_iconst (v := 1) C dX7_killIn_13 rfl ?_
  refine ow_iastore C dX7_killIn_14 hh (fun h2 hh => ?_)
  exact ow_vret Z dX7_killIn_15 trivial hh
def tr_X7_killIn : aw_T := fun as h Q => ∃ (p0 : Nat) (x1 : Int32), as = [.ref p0, .int x1] ∧ (sm_X7_killIn_0  Q p0 x1 h)
theorem tq_X7_killIn {p0 : Nat} {x1 : Int32} {h : aw_H} {Q : aw_R} : tr_X7_killIn [.ref p0, .int x1] h Q ↔ (sm_X7_killIn_0  Q p0 x1 h) := by
  constructor
  · rintro ⟨_, _, as0, hh⟩
    cases as0
    exact hh
  · intro hh
    exact ⟨_, _, rfl, hh⟩
theorem ct_X7_killIn (E : aw_F) : CT E yX7_killIn cX7_killIn 2 none 0 tr_X7_killIn := by
  refine ct_of (by decide) ?_
  intro X Q as h hE C Z hG
  subst hE
  obtain ⟨p0, x1, rfl, hh⟩ := hG
  refine ⟨[.ref p0, .int x1], rfl, Nat.le_of_ble_eq_true rfl, ?_⟩
  exact bl_X7_killIn_0 C Z p0 x1 h hh
theorem cv_X7_killIn (E : aw_F) : CV E yX7_killIn cX7_killIn 2 none 0 1 6 tr_X7_killIn := ⟨ct_X7_killIn E, by decide, kw_758, kw_759, kw_527, kw_757, by decide +kernel, _, _, rfl⟩
theorem dX7_pair_0 : decode cX7_pair 0 = .ok (.aload_n 0, 1) := by decide +kernel
theorem dX7_pair_1 : decode cX7_pair 1 = .ok (.invokevirtual 167, 3) := by decide +kernel
theorem dX7_pair_4 : decode cX7_pair 4 = .ok (.iconst 0, 1) := by decide +kernel
theorem dX7_pair_5 : decode cX7_pair 5 = .ok (.istore_n 1, 1) := by decide +kernel
theorem dX7_pair_6 : decode cX7_pair 6 = .ok (.iload_n 1, 1) := by decide +kernel
theorem dX7_pair_7 : decode cX7_pair 7 = .ok (.aload_n 0, 1) := by decide +kernel
theorem dX7_pair_8 : decode cX7_pair 8 = .ok (.getfield 7, 3) := by decide +kernel
theorem dX7_pair_11 : decode cX7_pair 11 = .ok (.iconst 1, 1) := by decide +kernel
theorem dX7_pair_12 : decode cX7_pair 12 = .ok (.iaload, 1) := by decide +kernel
theorem dX7_pair_13 : decode cX7_pair 13 = .ok (.if_icmp .ge 79, 3) := by decide +kernel
theorem dX7_pair_16 : decode cX7_pair 16 = .ok (.iload_n 1, 1) := by decide +kernel
theorem dX7_pair_17 : decode cX7_pair 17 = .ok (.iconst 1, 1) := by decide +kernel
theorem dX7_pair_18 : decode cX7_pair 18 = .ok (.iadd, 1) := by decide +kernel
theorem dX7_pair_19 : decode cX7_pair 19 = .ok (.istore_n 2, 1) := by decide +kernel
theorem dX7_pair_20 : decode cX7_pair 20 = .ok (.iload_n 2, 1) := by decide +kernel
theorem dX7_pair_21 : decode cX7_pair 21 = .ok (.aload_n 0, 1) := by decide +kernel
theorem dX7_pair_22 : decode cX7_pair 22 = .ok (.getfield 7, 3) := by decide +kernel
theorem dX7_pair_25 : decode cX7_pair 25 = .ok (.iconst 1, 1) := by decide +kernel
theorem dX7_pair_26 : decode cX7_pair 26 = .ok (.iaload, 1) := by decide +kernel
theorem dX7_pair_27 : decode cX7_pair 27 = .ok (.if_icmp .ge 59, 3) := by decide +kernel
theorem dX7_pair_30 : decode cX7_pair 30 = .ok (.aload_n 0, 1) := by decide +kernel
theorem dX7_pair_31 : decode cX7_pair 31 = .ok (.invokevirtual 182, 3) := by decide +kernel
theorem dX7_pair_34 : decode cX7_pair 34 = .ok (.aload_n 0, 1) := by decide +kernel
theorem dX7_pair_35 : decode cX7_pair 35 = .ok (.iload_n 1, 1) := by decide +kernel
theorem dX7_pair_36 : decode cX7_pair 36 = .ok (.invokevirtual 188, 3) := by decide +kernel
theorem dX7_pair_39 : decode cX7_pair 39 = .ok (.aload_n 0, 1) := by decide +kernel
theorem dX7_pair_40 : decode cX7_pair 40 = .ok (.iload_n 2, 1) := by decide +kernel
theorem dX7_pair_41 : decode cX7_pair 41 = .ok (.invokevirtual 188, 3) := by decide +kernel
theorem dX7_pair_44 : decode cX7_pair 44 = .ok (.aload_n 0, 1) := by decide +kernel
theorem dX7_pair_45 : decode cX7_pair 45 = .ok (.invokevirtual 134, 3) := by decide +kernel
theorem dX7_pair_48 : decode cX7_pair 48 = .ok (.iload_n 1, 1) := by decide +kernel
theorem dX7_pair_49 : decode cX7_pair 49 = .ok (.invokestatic 69, 3) := by decide +kernel
theorem dX7_pair_52 : decode cX7_pair 52 = .ok (.ifCond .ne 28, 3) := by decide +kernel
theorem dX7_pair_55 : decode cX7_pair 55 = .ok (.aload_n 0, 1) := by decide +kernel
theorem dX7_pair_56 : decode cX7_pair 56 = .ok (.invokevirtual 134, 3) := by decide +kernel
theorem dX7_pair_59 : decode cX7_pair 59 = .ok (.iload_n 2, 1) := by decide +kernel
theorem dX7_pair_60 : decode cX7_pair 60 = .ok (.invokestatic 69, 3) := by decide +kernel
theorem dX7_pair_63 : decode cX7_pair 63 = .ok (.ifCond .ne 17, 3) := by decide +kernel
theorem dX7_pair_66 : decode cX7_pair 66 = .ok (.aload_n 0, 1) := by decide +kernel
theorem dX7_pair_67 : decode cX7_pair 67 = .ok (.invokevirtual 185, 3) := by decide +kernel
theorem dX7_pair_70 : decode cX7_pair 70 = .ok (.ifCond .eq 10, 3) := by decide +kernel
theorem dX7_pair_73 : decode cX7_pair 73 = .ok (.bipush 100, 2) := by decide +kernel
theorem dX7_pair_75 : decode cX7_pair 75 = .ok (.iload_n 1, 1) := by decide +kernel
theorem dX7_pair_76 : decode cX7_pair 76 = .ok (.imul, 1) := by decide +kernel
theorem dX7_pair_77 : decode cX7_pair 77 = .ok (.iload_n 2, 1) := by decide +kernel
theorem dX7_pair_78 : decode cX7_pair 78 = .ok (.iadd, 1) := by decide +kernel
theorem dX7_pair_79 : decode cX7_pair 79 = .ok (.ireturn, 1) := by decide +kernel
theorem dX7_pair_80 : decode cX7_pair 80 = .ok (.iinc 2 1, 3) := by decide +kernel
theorem dX7_pair_83 : decode cX7_pair 83 = .ok (.goto (-63), 3) := by decide +kernel
theorem dX7_pair_86 : decode cX7_pair 86 = .ok (.iinc 1 1, 3) := by decide +kernel
theorem dX7_pair_89 : decode cX7_pair 89 = .ok (.goto (-83), 3) := by decide +kernel
theorem dX7_pair_92 : decode cX7_pair 92 = .ok (.bipush (-4), 2) := by decide +kernel
theorem dX7_pair_94 : decode cX7_pair 94 = .ok (.ireturn, 1) := by decide +kernel
def sm_X7_pair_20 (K6 : Nat → Int32 → aw_H → Prop) (K20 : Nat → Int32 → Int32 → aw_H → Prop) (Q : aw_R) (p0 : Nat) (x1 : Int32) (x2 : Int32) (h : aw_H) : Prop :=
  sg_R h p0 6 0 fun q1 => sa_I h q1 1 fun v2 => if v2 ≤ x2 then (K6 p0 (x1 + 1) h) else (sv_O h p0 6 (tr_X7_beginTry [.ref p0] h fun r4 h3 => sr_V r4 <| sv_O h3 p0 6 (tr_X7_killIn [.ref p0, .int x1] h3 fun r6 h5 => sr_V r6 <| sv_O h5 p0 6 (tr_X7_killIn [.ref p0, .int x2] h5 fun r8 h7 => sr_V r8 <| sv_O h7 p0 6 (tr_X7_dead [.ref p0] h7 fun r10 h9 => sr_I r10 fun v11 => tr_X7_has [.int v11, .int x1] h9 fun r13 h12 => sr_I r13 fun v14 => if ¬ v14 = 0 then (K20 p0 x1 (x2 + 1) h12) else (sv_O h12 p0 6 (tr_X7_dead [.ref p0] h12 fun r16 h15 => sr_I r16 fun v17 => tr_X7_has [.int v17, .int x2] h15 fun r19 h18 => sr_I r19 fun v20 => if ¬ v20 = 0 then (K20 p0 x1 (x2 + 1) h18) else (sv_O h18 p0 6 (tr_X7_isSame [.ref p0] h18 fun r22 h21 => sr_I r22 fun v23 => if v23 = 0 then (K20 p0 x1 (x2 + 1) h21) else (Q (some (.int ((100 * x1) + x2))) h21))))))))))
set_option maxRecDepth 100000 in
set_option maxHeartbeats 4000000 in
theorem bl_X7_pair_20 {X : aw_X} {Q : aw_R} (C : aw_C X cX7_pair RX7 3 6) (Z : aw_Z X cX7_pair (some .int) Q) (p0 : Nat) (x1 : Int32) (x2 : Int32) (h : aw_H) (hh : sm_X7_pair_20 (fun (p0 : Nat) (x1 : Int32) (h : aw_H) => Sat X 6 [.ref p0, .int x1, Value.null] [] h) (fun (p0 : Nat) (x1 : Int32) (x2 : Int32) (h : aw_H) => Sat X 20 [.ref p0, .int x1, .int x2] [] h) Q p0 x1 x2 h) : Sat X 20 [.ref p0, .int x1, .int x2] [] h := by
  unfold sm_X7_pair_20 at hh
  refine ow_iload_n C dX7_pair_20 rfl rfl ?_
  refine ow_aload_n C dX7_pair_21 rfl rfl ?_
  refine ow_getR (ci := 6) (k := 0) (T := TX7) C rfl igX7 (by decide) kw_533 dX7_pair_22 hh (fun q1 hh => ?_)
  refine ow_iconst (v := 1) C dX7_pair_25 rfl ?_
  refine ow_iaload C dX7_pair_26 hh (fun v2 hh => ?_)
  refine ow_icmp_ge (tgt := 86) C dX7_pair_27 (by decide) hh (fun hh => ?_) (fun hh => ?_)
  · skip
    refine ow_iinc (v := x1 + 1) (L' := [.ref p0, .int (x1 + 1), .int x2]) C dX7_pair_86 rfl rfl (by decide) rfl ?_
    refine ow_goto (tgt := 6) C dX7_pair_89 (by decide) ?_
    exact Sat.mask hh (mk_y (mk_y (mk_n mk_0)))
  · skip
    refine ow_aload_n C dX7_pair_30 rfl rfl ?_
    refine ow_callV C (cv_X7_beginTry _) (Nat.le_of_ble_eq_true rfl) kw_752 dX7_pair_31 (as := []) (st := []) rfl rfl (Nat.le_of_ble_eq_true rfl) hh (fun r4 h3 hq => ?_)
    obtain ⟨rfl, hh⟩ := sr_V_e hq
    show Sat X 34 [.ref p0, .int x1, .int x2] [] h3
    refine ow_aload_n C dX7_pair_34 rfl rfl ?_
    refine ow_iload_n C dX7_pair_35 rfl rfl ?_
    refine ow_callV C (cv_X7_killIn _) (Nat.le_of_ble_eq_true rfl) kw_760 dX7_pair_36 (as := [.int x1]) (st := []) rfl rfl (Nat.le_of_ble_eq_true rfl) hh (fun r6 h5 hq => ?_)
    obtain ⟨rfl, hh⟩ := sr_V_e hq
    show Sat X 39 [.ref p0, .int x1, .int x2] [] h5
    refine ow_aload_n C dX7_pair_39 rfl rfl ?_
    refine ow_iload_n C dX7_pair_40 rfl rfl ?_
    refine ow_callV C (cv_X7_killIn _) (Nat.le_of_ble_eq_true rfl) kw_760 dX7_pair_41 (as := [.int x2]) (st := []) rfl rfl (Nat.le_of_ble_eq_true rfl) hh (fun r8 h7 hq => ?_)
    obtain ⟨rfl, hh⟩ := sr_V_e hq
    show Sat X 44 [.ref p0, .int x1, .int x2] [] h7
    refine ow_aload_n C dX7_pair_44 rfl rfl ?_
    refine ow_callV C (cv_X7_dead _) (Nat.le_of_ble_eq_true rfl) kw_647 dX7_pair_45 (as := []) (st := []) rfl rfl (Nat.le_of_ble_eq_true rfl) hh (fun r10 h9 hq => ?_)
    obtain ⟨v11, rfl, hh⟩ := sr_I_e hq
    show Sat X 48 [.ref p0, .int x1, .int x2] [.int v11] h9
    refine ow_iload_n C dX7_pair_48 rfl rfl ?_
    refine ow_callS C (cs_X7_has _) (Nat.le_of_ble_eq_true rfl) kw_576 dX7_pair_49 (as := [.int v11, .int x1]) (st := []) rfl rfl (Nat.le_of_ble_eq_true rfl) hh (fun r13 h12 hq => ?_)
    obtain ⟨v14, rfl, hh⟩ := sr_I_e hq
    show Sat X 52 [.ref p0, .int x1, .int x2] [.int v14] h12
    refine ow_if_ne (tgt := 80) C dX7_pair_52 (by decide) hh (fun hh => ?_) (fun hh => ?_)
    · skip
      refine ow_iinc (v := x2 + 1) (L' := [.ref p0, .int x1, .int (x2 + 1)]) C dX7_pair_80 rfl rfl (by decide) rfl ?_
      refine ow_goto (tgt := 20) C dX7_pair_83 (by decide) ?_
      exact Sat.mask hh (mk_y (mk_y (mk_y mk_0)))
    · skip
      refine ow_aload_n C dX7_pair_55 rfl rfl ?_
      refine ow_callV C (cv_X7_dead _) (Nat.le_of_ble_eq_true rfl) kw_647 dX7_pair_56 (as := []) (st := []) rfl rfl (Nat.le_of_ble_eq_true rfl) hh (fun r16 h15 hq => ?_)
      obtain ⟨v17, rfl, hh⟩ := sr_I_e hq
      show Sat X 59 [.ref p0, .int x1, .int x2] [.int v17] h15
      refine ow_iload_n C dX7_pair_59 rfl rfl ?_
      refine ow_callS C (cs_X7_has _) (Nat.le_of_ble_eq_true rfl) kw_576 dX7_pair_60 (as := [.int v17, .int x2]) (st := []) rfl rfl (Nat.le_of_ble_eq_true rfl) hh (fun r19 h18 hq => ?_)
      obtain ⟨v20, rfl, hh⟩ := sr_I_e hq
      show Sat X 63 [.ref p0, .int x1, .int x2] [.int v20] h18
      refine ow_if_ne (tgt := 80) C dX7_pair_63 (by decide) hh (fun hh => ?_) (fun hh => ?_)
      · skip
        refine ow_iinc (v := x2 + 1) (L' := [.ref p0, .int x1, .int (x2 + 1)]) C dX7_pair_80 rfl rfl (by decide) rfl ?_
        refine ow_goto (tgt := 20) C dX7_pair_83 (by decide) ?_
        exact Sat.mask hh (mk_y (mk_y (mk_y mk_0)))
      · skip
        refine ow_aload_n C dX7_pair_66 rfl rfl ?_
        refine ow_callV C (cv_X7_isSame _) (Nat.le_of_ble_eq_true rfl) kw_753 dX7_pair_67 (as := []) (st := []) rfl rfl (Nat.le_of_ble_eq_true rfl) hh (fun r22 h21 hq => ?_)
        obtain ⟨v23, rfl, hh⟩ := sr_I_e hq
        show Sat X 70 [.ref p0, .int x1, .int x2] [.int v23] h21
        refine ow_if_eq (tgt := 80) C dX7_pair_70 (by decide) hh (fun hh => ?_) (fun hh => ?_)
        · skip
          refine ow_iinc (v := x2 + 1) (L' := [.ref p0, .int x1, .int (x2 + 1)]) C dX7_pair_80 rfl rfl (by decide) rfl ?_
          refine ow_goto (tgt := 20) C dX7_pair_83 (by decide) ?_
          exact Sat.mask hh (mk_y (mk_y (mk_y mk_0)))
        · skip
          refine ow_bipush (v := 100) C dX7_pair_73 rfl ?_
          refine ow_iload_n C dX7_pair_75 rfl rfl ?_
          refine ow_imul C dX7_pair_76 ?_
          refine ow_iload_n C dX7_pair_77 rfl rfl ?_
          refine ow_iadd C dX7_pair_78 ?_
          exact ow_iret Z dX7_pair_79 trivial hh
def sm_X7_pair_6 (K6 : Nat → Int32 → aw_H → Prop) (K20 : Nat → Int32 → Int32 → aw_H → Prop) (Q : aw_R) (p0 : Nat) (x1 : Int32) (h : aw_H) : Prop :=
  sg_R h p0 6 0 fun q1 => sa_I h q1 1 fun v2 => if v2 ≤ x1 then (Q (some (.int ((-4)))) h) else (K20 p0 x1 (x1 + 1) h)
set_option maxRecDepth 100000 in
set_option maxHeartbeats 4000000 in
theorem bl_X7_pair_6 {X : aw_X} {Q : aw_R} (C : aw_C X cX7_pair RX7 3 6) (Z : aw_Z X cX7_pair (some .int) Q) (p0 : Nat) (x1 : Int32) (h : aw_H) (hh : sm_X7_pair_6 (fun (p0 : Nat) (x1 : Int32) (h : aw_H) => Sat X 6 [.ref p0, .int x1, Value.null] [] h) (fun (p0 : Nat) (x1 : Int32) (x2 : Int32) (h : aw_H) => Sat X 20 [.ref p0, .int x1, .int x2] [] h) Q p0 x1 h) : Sat X 6 [.ref p0, .int x1, Value.null] [] h := by
  unfold sm_X7_pair_6 at hh
  refine ow_iload_n C dX7_pair_6 rfl rfl ?_
  refine ow_aload_n C dX7_pair_7 rfl rfl ?_
  refine ow_getR (ci := 6) (k := 0) (T := TX7) C rfl igX7 (by decide) kw_533 dX7_pair_8 hh (fun q1 hh => ?_)
  refine ow_iconst (v := 1) C dX7_pair_11 rfl ?_
  refine ow_iaload C dX7_pair_12 hh (fun v2 hh => ?_)
  refine ow_icmp_ge (tgt := 92) C dX7_pair_13 (by decide) hh (fun hh => ?_) (fun hh => ?_)
  · skip
    refine ow_bipush (v := (-4)) C dX7_pair_92 rfl ?_
    exact ow_iret Z dX7_pair_94 trivial hh
  · skip
    refine ow_iload_n C dX7_pair_16 rfl rfl ?_
    refine ow_iconst (v := 1) C dX7_pair_17 rfl ?_
    refine ow_iadd C dX7_pair_18 ?_
    refine ow_istore_n (L' := [.ref p0, .int x1, .int (x1 + 1)]) C dX7_pair_19 rfl (by decide) rfl ?_
    exact Sat.mask hh (mk_y (mk_y (mk_y mk_0)))
def sm_X7_pair_0 (K6 : Nat → Int32 → aw_H → Prop) (K20 : Nat → Int32 → Int32 → aw_H → Prop) (Q : aw_R) (p0 : Nat) (h : aw_H) : Prop :=
  sv_O h p0 6 (tr_X7_layRuns [.ref p0] h fun r2 h1 => sr_V r2 <| K6 p0 0 h1)
set_option maxRecDepth 100000 in
set_option maxHeartbeats 4000000 in
theorem bl_X7_pair_0 {X : aw_X} {Q : aw_R} (C : aw_C X cX7_pair RX7 3 6) (Z : aw_Z X cX7_pair (some .int) Q) (p0 : Nat) (h : aw_H) (hh : sm_X7_pair_0 (fun (p0 : Nat) (x1 : Int32) (h : aw_H) => Sat X 6 [.ref p0, .int x1, Value.null] [] h) (fun (p0 : Nat) (x1 : Int32) (x2 : Int32) (h : aw_H) => Sat X 20 [.ref p0, .int x1, .int x2] [] h) Q p0 h) : Sat X 0 [.ref p0, Value.null, Value.null] [] h := by
  unfold sm_X7_pair_0 at hh
  refine ow_aload_n C dX7_pair_0 rfl rfl ?_
  refine ow_callV C (cv_X7_layRuns _) (Nat.le_of_ble_eq_true rfl) kw_718 dX7_pair_1 (as := []) (st := []) rfl rfl (Nat.le_of_ble_eq_true rfl) hh (fun r2 h1 hq => ?_)
  obtain ⟨rfl, hh⟩ := sr_V_e hq
  show Sat X 4 [.ref p0, Value.null, Value.null] [] h1
  refine ow_iconst (v := 0) C dX7_pair_4 rfl ?_
  refine ow_istore_n (L' := [.ref p0, .int 0, Value.null]) C dX7_pair_5 rfl (by decide) rfl ?_
  exact Sat.mask hh (mk_y (mk_y (mk_n mk_0)))
def tr_X7_pair : aw_T := fun as h Q => ∃ (p0 : Nat), as = [.ref p0] ∧ (∀ (K6 : Nat → Int32 → aw_H → Prop) (K20 : Nat → Int32 → Int32 → aw_H → Prop), (∀ (p0 : Nat) (x1 : Int32) (h : aw_H), sm_X7_pair_6 K6 K20 Q p0 x1 h → K6 p0 x1 h) → (∀ (p0 : Nat) (x1 : Int32) (x2 : Int32) (h : aw_H), sm_X7_pair_20 K6 K20 Q p0 x1 x2 h → K20 p0 x1 x2 h) → sm_X7_pair_0 K6 K20 Q p0 h)
theorem tq_X7_pair {p0 : Nat} {h : aw_H} {Q : aw_R} : tr_X7_pair [.ref p0] h Q ↔ (∀ (K6 : Nat → Int32 → aw_H → Prop) (K20 : Nat → Int32 → Int32 → aw_H → Prop), (∀ (p0 : Nat) (x1 : Int32) (h : aw_H), sm_X7_pair_6 K6 K20 Q p0 x1 h → K6 p0 x1 h) → (∀ (p0 : Nat) (x1 : Int32) (x2 : Int32) (h : aw_H), sm_X7_pair_20 K6 K20 Q p0 x1 x2 h → K20 p0 x1 x2 h) → sm_X7_pair_0 K6 K20 Q p0 h) := by
  constructor
  · rintro ⟨_, as0, hh⟩
    cases as0
    exact hh
  · intro hh
    exact ⟨_, rfl, hh⟩
theorem ct_X7_pair (E : aw_F) : CT E yX7_pair cX7_pair 3 (some .int) 6 tr_X7_pair := by
  refine ct_of (by decide) ?_
  intro X Q as h hE C Z hG
  subst hE
  obtain ⟨p0, rfl, hh⟩ := hG
  refine ⟨[.ref p0, Value.null, Value.null], rfl, Nat.le_of_ble_eq_true rfl, ?_⟩
  exact bl_X7_pair_0 C Z p0 h (hh (fun (p0 : Nat) (x1 : Int32) (h : aw_H) => Sat X 6 [.ref p0, .int x1, Value.null] [] h) (fun (p0 : Nat) (x1 : Int32) (x2 : Int32) (h : aw_H) => Sat X 20 [.ref p0, .int x1, .int x2] [] h) (fun p0 x1 h hh => bl_X7_pair_6 C Z p0 x1 h hh) (fun p0 x1 x2 h hh => bl_X7_pair_20 C Z p0 x1 x2 h hh))
theorem cv_X7_pair (E : aw_F) : CV E yX7_pair cX7_pair 3 (some .int) 6 0 6 tr_X7_pair := ⟨ct_X7_pair E, by decide, kw_762, kw_763, kw_527, kw_761, by decide +kernel, _, _, rfl⟩
theorem dX7_hangs_0 : decode cX7_hangs 0 = .ok (.aload_n 0, 1) := by decide +kernel
theorem dX7_hangs_1 : decode cX7_hangs 1 = .ok (.iload_n 1, 1) := by decide +kernel
theorem dX7_hangs_2 : decode cX7_hangs 2 = .ok (.invokevirtual 50, 3) := by decide +kernel
theorem dX7_hangs_5 : decode cX7_hangs 5 = .ok (.ifCond .eq 12, 3) := by decide +kernel
theorem dX7_hangs_8 : decode cX7_hangs 8 = .ok (.iload_n 2, 1) := by decide +kernel
theorem dX7_hangs_9 : decode cX7_hangs 9 = .ok (.iconst 0, 1) := by decide +kernel
theorem dX7_hangs_10 : decode cX7_hangs 10 = .ok (.iconst 1, 1) := by decide +kernel
theorem dX7_hangs_11 : decode cX7_hangs 11 = .ok (.invokestatic 42, 3) := by decide +kernel
theorem dX7_hangs_14 : decode cX7_hangs 14 = .ok (.ifCond .ne 5, 3) := by decide +kernel
theorem dX7_hangs_17 : decode cX7_hangs 17 = .ok (.iconst (-1), 1) := by decide +kernel
theorem dX7_hangs_18 : decode cX7_hangs 18 = .ok (.ireturn, 1) := by decide +kernel
theorem dX7_hangs_19 : decode cX7_hangs 19 = .ok (.aload_n 0, 1) := by decide +kernel
theorem dX7_hangs_20 : decode cX7_hangs 20 = .ok (.invokevirtual 167, 3) := by decide +kernel
theorem dX7_hangs_23 : decode cX7_hangs 23 = .ok (.iconst 0, 1) := by decide +kernel
theorem dX7_hangs_24 : decode cX7_hangs 24 = .ok (.istore_n 3, 1) := by decide +kernel
theorem dX7_hangs_25 : decode cX7_hangs 25 = .ok (.iconst 0, 1) := by decide +kernel
theorem dX7_hangs_26 : decode cX7_hangs 26 = .ok (.istore 4, 2) := by decide +kernel
theorem dX7_hangs_28 : decode cX7_hangs 28 = .ok (.iconst 0, 1) := by decide +kernel
theorem dX7_hangs_29 : decode cX7_hangs 29 = .ok (.istore 5, 2) := by decide +kernel
theorem dX7_hangs_31 : decode cX7_hangs 31 = .ok (.iload 5, 2) := by decide +kernel
theorem dX7_hangs_33 : decode cX7_hangs 33 = .ok (.aload_n 0, 1) := by decide +kernel
theorem dX7_hangs_34 : decode cX7_hangs 34 = .ok (.invokevirtual 38, 3) := by decide +kernel
theorem dX7_hangs_37 : decode cX7_hangs 37 = .ok (.if_icmp .ge 94, 3) := by decide +kernel
theorem dX7_hangs_40 : decode cX7_hangs 40 = .ok (.iload 4, 2) := by decide +kernel
theorem dX7_hangs_42 : decode cX7_hangs 42 = .ok (.iload 5, 2) := by decide +kernel
theorem dX7_hangs_44 : decode cX7_hangs 44 = .ok (.aload_n 0, 1) := by decide +kernel
theorem dX7_hangs_45 : decode cX7_hangs 45 = .ok (.getfield 26, 3) := by decide +kernel
theorem dX7_hangs_48 : decode cX7_hangs 48 = .ok (.iload 5, 2) := by decide +kernel
theorem dX7_hangs_50 : decode cX7_hangs 50 = .ok (.iaload, 1) := by decide +kernel
theorem dX7_hangs_51 : decode cX7_hangs 51 = .ok (.ixor, 1) := by decide +kernel
theorem dX7_hangs_52 : decode cX7_hangs 52 = .ok (.iload_n 1, 1) := by decide +kernel
theorem dX7_hangs_53 : decode cX7_hangs 53 = .ok (.invokestatic 69, 3) := by decide +kernel
theorem dX7_hangs_56 : decode cX7_hangs 56 = .ok (.ifCond .eq 7, 3) := by decide +kernel
theorem dX7_hangs_59 : decode cX7_hangs 59 = .ok (.iconst 1, 1) := by decide +kernel
theorem dX7_hangs_60 : decode cX7_hangs 60 = .ok (.goto 4, 3) := by decide +kernel
theorem dX7_hangs_63 : decode cX7_hangs 63 = .ok (.iconst 0, 1) := by decide +kernel
theorem dX7_hangs_64 : decode cX7_hangs 64 = .ok (.iadd, 1) := by decide +kernel
theorem dX7_hangs_65 : decode cX7_hangs 65 = .ok (.istore 4, 2) := by decide +kernel
theorem dX7_hangs_67 : decode cX7_hangs 67 = .ok (.iconst 0, 1) := by decide +kernel
theorem dX7_hangs_68 : decode cX7_hangs 68 = .ok (.istore 6, 2) := by decide +kernel
theorem dX7_hangs_70 : decode cX7_hangs 70 = .ok (.iload 6, 2) := by decide +kernel
theorem dX7_hangs_72 : decode cX7_hangs 72 = .ok (.aload_n 0, 1) := by decide +kernel
theorem dX7_hangs_73 : decode cX7_hangs 73 = .ok (.getfield 7, 3) := by decide +kernel
theorem dX7_hangs_76 : decode cX7_hangs 76 = .ok (.iconst 0, 1) := by decide +kernel
theorem dX7_hangs_77 : decode cX7_hangs 77 = .ok (.iaload, 1) := by decide +kernel
theorem dX7_hangs_78 : decode cX7_hangs 78 = .ok (.if_icmp .ge 47, 3) := by decide +kernel
theorem dX7_hangs_81 : decode cX7_hangs 81 = .ok (.iload_n 3, 1) := by decide +kernel
theorem dX7_hangs_82 : decode cX7_hangs 82 = .ok (.aload_n 0, 1) := by decide +kernel
theorem dX7_hangs_83 : decode cX7_hangs 83 = .ok (.getfield 26, 3) := by decide +kernel
theorem dX7_hangs_86 : decode cX7_hangs 86 = .ok (.iload 5, 2) := by decide +kernel
theorem dX7_hangs_88 : decode cX7_hangs 88 = .ok (.iaload, 1) := by decide +kernel
theorem dX7_hangs_89 : decode cX7_hangs 89 = .ok (.aload_n 0, 1) := by decide +kernel
theorem dX7_hangs_90 : decode cX7_hangs 90 = .ok (.getfield 26, 3) := by decide +kernel
theorem dX7_hangs_93 : decode cX7_hangs 93 = .ok (.iload 5, 2) := by decide +kernel
theorem dX7_hangs_95 : decode cX7_hangs 95 = .ok (.iconst 1, 1) := by decide +kernel
theorem dX7_hangs_96 : decode cX7_hangs 96 = .ok (.iload 6, 2) := by decide +kernel
theorem dX7_hangs_98 : decode cX7_hangs 98 = .ok (.ishl, 1) := by decide +kernel
theorem dX7_hangs_99 : decode cX7_hangs 99 = .ok (.ixor, 1) := by decide +kernel
theorem dX7_hangs_100 : decode cX7_hangs 100 = .ok (.iaload, 1) := by decide +kernel
theorem dX7_hangs_101 : decode cX7_hangs 101 = .ok (.ixor, 1) := by decide +kernel
theorem dX7_hangs_102 : decode cX7_hangs 102 = .ok (.iload_n 1, 1) := by decide +kernel
theorem dX7_hangs_103 : decode cX7_hangs 103 = .ok (.invokestatic 69, 3) := by decide +kernel
theorem dX7_hangs_106 : decode cX7_hangs 106 = .ok (.ifCond .eq 10, 3) := by decide +kernel
theorem dX7_hangs_109 : decode cX7_hangs 109 = .ok (.iconst 1, 1) := by decide +kernel
theorem dX7_hangs_110 : decode cX7_hangs 110 = .ok (.iload 6, 2) := by decide +kernel
theorem dX7_hangs_112 : decode cX7_hangs 112 = .ok (.ishl, 1) := by decide +kernel
theorem dX7_hangs_113 : decode cX7_hangs 113 = .ok (.goto 4, 3) := by decide +kernel
theorem dX7_hangs_116 : decode cX7_hangs 116 = .ok (.iconst 0, 1) := by decide +kernel
theorem dX7_hangs_117 : decode cX7_hangs 117 = .ok (.ior, 1) := by decide +kernel
theorem dX7_hangs_118 : decode cX7_hangs 118 = .ok (.istore_n 3, 1) := by decide +kernel
theorem dX7_hangs_119 : decode cX7_hangs 119 = .ok (.iinc 6 1, 3) := by decide +kernel
theorem dX7_hangs_122 : decode cX7_hangs 122 = .ok (.goto (-52), 3) := by decide +kernel
theorem dX7_hangs_125 : decode cX7_hangs 125 = .ok (.iinc 5 1, 3) := by decide +kernel
theorem dX7_hangs_128 : decode cX7_hangs 128 = .ok (.goto (-97), 3) := by decide +kernel
theorem dX7_hangs_131 : decode cX7_hangs 131 = .ok (.iload_n 2, 1) := by decide +kernel
theorem dX7_hangs_132 : decode cX7_hangs 132 = .ok (.ifCond .ne 7, 3) := by decide +kernel
theorem dX7_hangs_135 : decode cX7_hangs 135 = .ok (.iload_n 3, 1) := by decide +kernel
theorem dX7_hangs_136 : decode cX7_hangs 136 = .ok (.goto 5, 3) := by decide +kernel
theorem dX7_hangs_139 : decode cX7_hangs 139 = .ok (.iload 4, 2) := by decide +kernel
theorem dX7_hangs_141 : decode cX7_hangs 141 = .ok (.ireturn, 1) := by decide +kernel
def sm_X7_hangs_70 (K31 : Nat → Int32 → Int32 → Int32 → Int32 → Int32 → aw_H → Prop) (K70 : Nat → Int32 → Int32 → Int32 → Int32 → Int32 → Int32 → aw_H → Prop) (Q : aw_R) (p0 : Nat) (x1 : Int32) (x2 : Int32) (x3 : Int32) (x4 : Int32) (x5 : Int32) (x6 : Int32) (h : aw_H) : Prop :=
  sg_R h p0 6 0 fun q1 => sa_I h q1 0 fun v2 => if v2 ≤ x6 then (K31 p0 x1 x2 x3 x4 (x5 + 1) h) else (sg_R h p0 6 7 fun q3 => sa_I h q3 x5 fun v4 => sg_R h p0 6 7 fun q5 => sa_I h q5 (x5 ^^^ ((1 : Int32) <<< (x6 &&& 31))) fun v6 => tr_X7_has [.int (v4 ^^^ v6), .int x1] h fun r8 h7 => sr_I r8 fun v9 => if v9 = 0 then (K70 p0 x1 x2 (x3 ||| 0) x4 x5 (x6 + 1) h7) else (K70 p0 x1 x2 (x3 ||| ((1 : Int32) <<< (x6 &&& 31))) x4 x5 (x6 + 1) h7))
set_option maxRecDepth 100000 in
set_option maxHeartbeats 4000000 in
theorem bl_X7_hangs_70 {X : aw_X} {Q : aw_R} (C : aw_C X cX7_hangs RX7 7 6) (Z : aw_Z X cX7_hangs (some .int) Q) (p0 : Nat) (x1 : Int32) (x2 : Int32) (x3 : Int32) (x4 : Int32) (x5 : Int32) (x6 : Int32) (h : aw_H) (hh : sm_X7_hangs_70 (fun (p0 : Nat) (x1 : Int32) (x2 : Int32) (x3 : Int32) (x4 : Int32) (x5 : Int32) (h : aw_H) => Sat X 31 [.ref p0, .int x1, .int x2, .int x3, .int x4, .int x5, Value.null] [] h) (fun (p0 : Nat) (x1 : Int32) (x2 : Int32) (x3 : Int32) (x4 : Int32) (x5 : Int32) (x6 : Int32) (h : aw_H) => Sat X 70 [.ref p0, .int x1, .int x2, .int x3, .int x4, .int x5, .int x6] [] h) Q p0 x1 x2 x3 x4 x5 x6 h) : Sat X 70 [.ref p0, .int x1, .int x2, .int x3, .int x4, .int x5, .int x6] [] h := by
  unfold sm_X7_hangs_70 at hh
  refine ow_iload C dX7_hangs_70 rfl ?_
  refine ow_aload_n C dX7_hangs_72 rfl rfl ?_
  refine ow_getR (ci := 6) (k := 0) (T := TX7) C rfl igX7 (by decide) kw_533 dX7_hangs_73 hh (fun q1 hh => ?_)
  refine ow_iconst (v := 0) C dX7_hangs_76 rfl ?_
  refine ow_iaload C dX7_hangs_77 hh (fun v2 hh => ?_)
  refine ow_icmp_ge (tgt := 125) C dX7_hangs_78 (by decide) hh (fun hh => ?_) (fun hh => ?_)
  · skip
    refine ow_iinc (v := x5 + 1) (L' := [.ref p0, .int x1, .int x2, .int x3, .int x4, .int (x5 + 1), .int x6]) C dX7_hangs_125 rfl rfl (by decide) rfl ?_
    refine ow_goto (tgt := 31) C dX7_hangs_128 (by decide) ?_
    exact Sat.mask hh (mk_y (mk_y (mk_y (mk_y (mk_y (mk_y (mk_n mk_0)))))))
  · skip
    refine ow_iload_n C dX7_hangs_81 rfl rfl ?_
    refine ow_aload_n C dX7_hangs_82 rfl rfl ?_
    refine ow_getR (ci := 6) (k := 7) (T := TX7) C rfl igX7 (by decide) kw_706 dX7_hangs_83 hh (fun q3 hh => ?_)
    refine ow_iload C dX7_hangs_86 rfl ?_
    refine ow_iaload C dX7_hangs_88 hh (fun v4 hh => ?_)
    refine ow_aload_n C dX7_hangs_89 rfl rfl ?_
    refine ow_getR (ci := 6) (k := 7) (T := TX7) C rfl igX7 (by decide) kw_706 dX7_hangs_90 hh (fun q5 hh => ?_)
    refine ow_iload C dX7_hangs_93 rfl ?_
    refine ow_iconst (v := 1) C dX7_hangs_95 rfl ?_
    refine ow_iload C dX7_hangs_96 rfl ?_
    refine ow_ishl C dX7_hangs_98 ?_
    refine ow_ixor C dX7_hangs_99 ?_
    refine ow_iaload C dX7_hangs_100 hh (fun v6 hh => ?_)
    refine ow_ixor C dX7_hangs_101 ?_
    refine ow_iload_n C dX7_hangs_102 rfl rfl ?_
    refine ow_callS C (cs_X7_has _) (Nat.le_of_ble_eq_true rfl) kw_576 dX7_hangs_103 (as := [.int (v4 ^^^ v6), .int x1]) (st := [.int x3]) rfl rfl (Nat.le_of_ble_eq_true rfl) hh (fun r8 h7 hq => ?_)
    obtain ⟨v9, rfl, hh⟩ := sr_I_e hq
    show Sat X 106 [.ref p0, .int x1, .int x2, .int x3, .int x4, .int x5, .int x6] [.int v9, .int x3] h7
    refine ow_if_eq (tgt := 116) C dX7_hangs_106 (by decide) hh (fun hh => ?_) (fun hh => ?_)
    · skip
      refine ow_iconst (v := 0) C dX7_hangs_116 rfl ?_
      refine ow_ior C dX7_hangs_117 ?_
      refine ow_istore_n (L' := [.ref p0, .int x1, .int x2, .int (x3 ||| 0), .int x4, .int x5, .int x6]) C dX7_hangs_118 rfl (by decide) rfl ?_
      refine ow_iinc (v := x6 + 1) (L' := [.ref p0, .int x1, .int x2, .int (x3 ||| 0), .int x4, .int x5, .int (x6 + 1)]) C dX7_hangs_119 rfl rfl (by decide) rfl ?_
      refine ow_goto (tgt := 70) C dX7_hangs_122 (by decide) ?_
      exact Sat.mask hh (mk_y (mk_y (mk_y (mk_y (mk_y (mk_y (mk_y mk_0)))))))
    · skip
      refine ow_iconst (v := 1) C dX7_hangs_109 rfl ?_
      refine ow_iload C dX7_hangs_110 rfl ?_
      refine ow_ishl C dX7_hangs_112 ?_
      refine ow_goto (tgt := 117) C dX7_hangs_113 (by decide) ?_
      refine ow_ior C dX7_hangs_117 ?_
      refine ow_istore_n (L' := [.ref p0, .int x1, .int x2, .int (x3 ||| ((1 : Int32) <<< (x6 &&& 31))), .int x4, .int x5, .int x6]) C dX7_hangs_118 rfl (by decide) rfl ?_
      refine ow_iinc (v := x6 + 1) (L' := [.ref p0, .int x1, .int x2, .int (x3 ||| ((1 : Int32) <<< (x6 &&& 31))), .int x4, .int x5, .int (x6 + 1)]) C dX7_hangs_119 rfl rfl (by decide) rfl ?_
      refine ow_goto (tgt := 70) C dX7_hangs_122 (by decide) ?_
      exact Sat.mask hh (mk_y (mk_y (mk_y (mk_y (mk_y (mk_y (mk_y mk_0)))))))
def sm_X7_hangs_31 (K31 : Nat → Int32 → Int32 → Int32 → Int32 → Int32 → aw_H → Prop) (K70 : Nat → Int32 → Int32 → Int32 → Int32 → Int32 → Int32 → aw_H → Prop) (Q : aw_R) (p0 : Nat) (x1 : Int32) (x2 : Int32) (x3 : Int32) (x4 : Int32) (x5 : Int32) (h : aw_H) : Prop :=
  sv_O h p0 6 (tr_X7_states [.ref p0] h fun r2 h1 => sr_I r2 fun v3 => if v3 ≤ x5 then (if ¬ x2 = 0 then (Q (some (.int x4)) h1) else (Q (some (.int x3)) h1)) else (sg_R h1 p0 6 7 fun q4 => sa_I h1 q4 x5 fun v5 => tr_X7_has [.int (x5 ^^^ v5), .int x1] h1 fun r7 h6 => sr_I r7 fun v8 => if v8 = 0 then (K70 p0 x1 x2 x3 (x4 + 0) x5 0 h6) else (K70 p0 x1 x2 x3 (x4 + 1) x5 0 h6)))
set_option maxRecDepth 100000 in
set_option maxHeartbeats 4000000 in
theorem bl_X7_hangs_31 {X : aw_X} {Q : aw_R} (C : aw_C X cX7_hangs RX7 7 6) (Z : aw_Z X cX7_hangs (some .int) Q) (p0 : Nat) (x1 : Int32) (x2 : Int32) (x3 : Int32) (x4 : Int32) (x5 : Int32) (h : aw_H) (hh : sm_X7_hangs_31 (fun (p0 : Nat) (x1 : Int32) (x2 : Int32) (x3 : Int32) (x4 : Int32) (x5 : Int32) (h : aw_H) => Sat X 31 [.ref p0, .int x1, .int x2, .int x3, .int x4, .int x5, Value.null] [] h) (fun (p0 : Nat) (x1 : Int32) (x2 : Int32) (x3 : Int32) (x4 : Int32) (x5 : Int32) (x6 : Int32) (h : aw_H) => Sat X 70 [.ref p0, .int x1, .int x2, .int x3, .int x4, .int x5, .int x6] [] h) Q p0 x1 x2 x3 x4 x5 h) : Sat X 31 [.ref p0, .int x1, .int x2, .int x3, .int x4, .int x5, Value.null] [] h := by
  unfold sm_X7_hangs_31 at hh
  refine ow_iload C dX7_hangs_31 rfl ?_
  refine ow_aload_n C dX7_hangs_33 rfl rfl ?_
  refine ow_callV C (cv_X7_states _) (Nat.le_of_ble_eq_true rfl) kw_540 dX7_hangs_34 (as := []) (st := [.int x5]) rfl rfl (Nat.le_of_ble_eq_true rfl) hh (fun r2 h1 hq => ?_)
  obtain ⟨v3, rfl, hh⟩ := sr_I_e hq
  show Sat X 37 [.ref p0, .int x1, .int x2, .int x3, .int x4, .int x5, Value.null] [.int v3, .int x5] h1
  refine ow_icmp_ge (tgt := 131) C dX7_hangs_37 (by decide) hh (fun hh => ?_) (fun hh => ?_)
  · skip
    refine ow_iload_n C dX7_hangs_131 rfl rfl ?_
    refine ow_if_ne (tgt := 139) C dX7_hangs_132 (by decide) hh (fun hh => ?_) (fun hh => ?_)
    · skip
      refine ow_iload C dX7_hangs_139 rfl ?_
      exact ow_iret Z dX7_hangs_141 trivial hh
    · skip
      refine ow_iload_n C dX7_hangs_135 rfl rfl ?_
      refine ow_goto (tgt := 141) C dX7_hangs_136 (by decide) ?_
      exact ow_iret Z dX7_hangs_141 trivial hh
  · skip
    refine ow_iload C dX7_hangs_40 rfl ?_
    refine ow_iload C dX7_hangs_42 rfl ?_
    refine ow_aload_n C dX7_hangs_44 rfl rfl ?_
    refine ow_getR (ci := 6) (k := 7) (T := TX7) C rfl igX7 (by decide) kw_706 dX7_hangs_45 hh (fun q4 hh => ?_)
    refine ow_iload C dX7_hangs_48 rfl ?_
    refine ow_iaload C dX7_hangs_50 hh (fun v5 hh => ?_)
    refine ow_ixor C dX7_hangs_51 ?_
    refine ow_iload_n C dX7_hangs_52 rfl rfl ?_
    refine ow_callS C (cs_X7_has _) (Nat.le_of_ble_eq_true rfl) kw_576 dX7_hangs_53 (as := [.int (x5 ^^^ v5), .int x1]) (st := [.int x4]) rfl rfl (Nat.le_of_ble_eq_true rfl) hh (fun r7 h6 hq => ?_)
    obtain ⟨v8, rfl, hh⟩ := sr_I_e hq
    show Sat X 56 [.ref p0, .int x1, .int x2, .int x3, .int x4, .int x5, Value.null] [.int v8, .int x4] h6
    refine ow_if_eq (tgt := 63) C dX7_hangs_56 (by decide) hh (fun hh => ?_) (fun hh => ?_)
    · skip
      refine ow_iconst (v := 0) C dX7_hangs_63 rfl ?_
      refine ow_iadd C dX7_hangs_64 ?_
      refine ow_istore (L' := [.ref p0, .int x1, .int x2, .int x3, .int (x4 + 0), .int x5, Value.null]) C dX7_hangs_65 (by decide) rfl ?_
      refine ow_iconst (v := 0) C dX7_hangs_67 rfl ?_
      refine ow_istore (L' := [.ref p0, .int x1, .int x2, .int x3, .int (x4 + 0), .int x5, .int 0]) C dX7_hangs_68 (by decide) rfl ?_
      exact Sat.mask hh (mk_y (mk_y (mk_y (mk_y (mk_y (mk_y (mk_y mk_0)))))))
    · skip
      refine ow_iconst (v := 1) C dX7_hangs_59 rfl ?_
      refine ow_goto (tgt := 64) C dX7_hangs_60 (by decide) ?_
      refine ow_iadd C dX7_hangs_64 ?_
      refine ow_istore (L' := [.ref p0, .int x1, .int x2, .int x3, .int (x4 + 1), .int x5, Value.null]) C dX7_hangs_65 (by decide) rfl ?_
      refine ow_iconst (v := 0) C dX7_hangs_67 rfl ?_
      refine ow_istore (L' := [.ref p0, .int x1, .int x2, .int x3, .int (x4 + 1), .int x5, .int 0]) C dX7_hangs_68 (by decide) rfl ?_
      exact Sat.mask hh (mk_y (mk_y (mk_y (mk_y (mk_y (mk_y (mk_y mk_0)))))))
def sm_X7_hangs_0 (K31 : Nat → Int32 → Int32 → Int32 → Int32 → Int32 → aw_H → Prop) (K70 : Nat → Int32 → Int32 → Int32 → Int32 → Int32 → Int32 → aw_H → Prop) (Q : aw_R) (p0 : Nat) (x1 : Int32) (x2 : Int32) (h : aw_H) : Prop :=
  sv_O h p0 6 (tr_X7_isWire [.ref p0, .int x1] h fun r2 h1 => sr_I r2 fun v3 => if v3 = 0 then (Q (some (.int ((-1)))) h1) else (tr_X7_in [.int x2, .int 0, .int 1] h1 fun r5 h4 => sr_I r5 fun v6 => if ¬ v6 = 0 then (sv_O h4 p0 6 (tr_X7_layRuns [.ref p0] h4 fun r8 h7 => sr_V r8 <| K31 p0 x1 x2 0 0 0 h7)) else (Q (some (.int ((-1)))) h4)))
set_option maxRecDepth 100000 in
set_option maxHeartbeats 4000000 in
theorem bl_X7_hangs_0 {X : aw_X} {Q : aw_R} (C : aw_C X cX7_hangs RX7 7 6) (Z : aw_Z X cX7_hangs (some .int) Q) (p0 : Nat) (x1 : Int32) (x2 : Int32) (h : aw_H) (hh : sm_X7_hangs_0 (fun (p0 : Nat) (x1 : Int32) (x2 : Int32) (x3 : Int32) (x4 : Int32) (x5 : Int32) (h : aw_H) => Sat X 31 [.ref p0, .int x1, .int x2, .int x3, .int x4, .int x5, Value.null] [] h) (fun (p0 : Nat) (x1 : Int32) (x2 : Int32) (x3 : Int32) (x4 : Int32) (x5 : Int32) (x6 : Int32) (h : aw_H) => Sat X 70 [.ref p0, .int x1, .int x2, .int x3, .int x4, .int x5, .int x6] [] h) Q p0 x1 x2 h) : Sat X 0 [.ref p0, .int x1, .int x2, Value.null, Value.null, Value.null, Value.null] [] h := by
  unfold sm_X7_hangs_0 at hh
  refine ow_aload_n C dX7_hangs_0 rfl rfl ?_
  refine ow_iload_n C dX7_hangs_1 rfl rfl ?_
  refine ow_callV C (cv_X7_isWire _) (Nat.le_of_ble_eq_true rfl) kw_566 dX7_hangs_2 (as := [.int x1]) (st := []) rfl rfl (Nat.le_of_ble_eq_true rfl) hh (fun r2 h1 hq => ?_)
  obtain ⟨v3, rfl, hh⟩ := sr_I_e hq
  show Sat X 5 [.ref p0, .int x1, .int x2, Value.null, Value.null, Value.null, Value.null] [.int v3] h1
  refine ow_if_eq (tgt := 17) C dX7_hangs_5 (by decide) hh (fun hh => ?_) (fun hh => ?_)
  · skip
    refine ow_iconst (v := (-1)) C dX7_hangs_17 rfl ?_
    exact ow_iret Z dX7_hangs_18 trivial hh
  · skip
    refine ow_iload_n C dX7_hangs_8 rfl rfl ?_
    refine ow_iconst (v := 0) C dX7_hangs_9 rfl ?_
    refine ow_iconst (v := 1) C dX7_hangs_10 rfl ?_
    refine ow_callS C (cs_X7_in _) (Nat.le_of_ble_eq_true rfl) kw_541 dX7_hangs_11 (as := [.int x2, .int 0, .int 1]) (st := []) rfl rfl (Nat.le_of_ble_eq_true rfl) hh (fun r5 h4 hq => ?_)
    obtain ⟨v6, rfl, hh⟩ := sr_I_e hq
    show Sat X 14 [.ref p0, .int x1, .int x2, Value.null, Value.null, Value.null, Value.null] [.int v6] h4
    refine ow_if_ne (tgt := 19) C dX7_hangs_14 (by decide) hh (fun hh => ?_) (fun hh => ?_)
    · skip
      refine ow_aload_n C dX7_hangs_19 rfl rfl ?_
      refine ow_callV C (cv_X7_layRuns _) (Nat.le_of_ble_eq_true rfl) kw_718 dX7_hangs_20 (as := []) (st := []) rfl rfl (Nat.le_of_ble_eq_true rfl) hh (fun r8 h7 hq => ?_)
      obtain ⟨rfl, hh⟩ := sr_V_e hq
      show Sat X 23 [.ref p0, .int x1, .int x2, Value.null, Value.null, Value.null, Value.null] [] h7
      refine ow_iconst (v := 0) C dX7_hangs_23 rfl ?_
      refine ow_istore_n (L' := [.ref p0, .int x1, .int x2, .int 0, Value.null, Value.null, Value.null]) C dX7_hangs_24 rfl (by decide) rfl ?_
      refine ow_iconst (v := 0) C dX7_hangs_25 rfl ?_
      refine ow_istore (L' := [.ref p0, .int x1, .int x2, .int 0, .int 0, Value.null, Value.null]) C dX7_hangs_26 (by decide) rfl ?_
      refine ow_iconst (v := 0) C dX7_hangs_28 rfl ?_
      refine ow_istore (L' := [.ref p0, .int x1, .int x2, .int 0, .int 0, .int 0, Value.null]) C dX7_hangs_29 (by decide) rfl ?_
      exact Sat.mask hh (mk_y (mk_y (mk_y (mk_y (mk_y (mk_y (mk_n mk_0)))))))
    · skip
      refine ow_iconst (v := (-1)) C dX7_hangs_17 rfl ?_
      exact ow_iret Z dX7_hangs_18 trivial hh
def tr_X7_hangs : aw_T := fun as h Q => ∃ (p0 : Nat) (x1 : Int32) (x2 : Int32), as = [.ref p0, .int x1, .int x2] ∧ (∀ (K31 : Nat → Int32 → Int32 → Int32 → Int32 → Int32 → aw_H → Prop) (K70 : Nat → Int32 → Int32 → Int32 → Int32 → Int32 → Int32 → aw_H → Prop), (∀ (p0 : Nat) (x1 : Int32) (x2 : Int32) (x3 : Int32) (x4 : Int32) (x5 : Int32) (h : aw_H), sm_X7_hangs_31 K31 K70 Q p0 x1 x2 x3 x4 x5 h → K31 p0 x1 x2 x3 x4 x5 h) → (∀ (p0 : Nat) (x1 : Int32) (x2 : Int32) (x3 : Int32) (x4 : Int32) (x5 : Int32) (x6 : Int32) (h : aw_H), sm_X7_hangs_70 K31 K70 Q p0 x1 x2 x3 x4 x5 x6 h → K70 p0 x1 x2 x3 x4 x5 x6 h) → sm_X7_hangs_0 K31 K70 Q p0 x1 x2 h)
theorem tq_X7_hangs {p0 : Nat} {x1 : Int32} {x2 : Int32} {h : aw_H} {Q : aw_R} : tr_X7_hangs [.ref p0, .int x1, .int x2] h Q ↔ (∀ (K31 : Nat → Int32 → Int32 → Int32 → Int32 → Int32 → aw_H → Prop) (K70 : Nat → Int32 → Int32 → Int32 → Int32 → Int32 → Int32 → aw_H → Prop), (∀ (p0 : Nat) (x1 : Int32) (x2 : Int32) (x3 : Int32) (x4 : Int32) (x5 : Int32) (h : aw_H), sm_X7_hangs_31 K31 K70 Q p0 x1 x2 x3 x4 x5 h → K31 p0 x1 x2 x3 x4 x5 h) → (∀ (p0 : Nat) (x1 : Int32) (x2 : Int32) (x3 : Int32) (x4 : Int32) (x5 : Int32) (x6 : Int32) (h : aw_H), sm_X7_hangs_70 K31 K70 Q p0 x1 x2 x3 x4 x5 x6 h → K70 p0 x1 x2 x3 x4 x5 x6 h) → sm_X7_hangs_0 K31 K70 Q p0 x1 x2 h) := by
  constructor
  · rintro ⟨_, _, _, as0, hh⟩
    cases as0
    exact hh
  · intro hh
    exact ⟨_, _, _, rfl, hh⟩
theorem ct_X7_hangs (E : aw_F) : CT E yX7_hangs cX7_hangs 7 (some .int) 6 tr_X7_hangs := by
  refine ct_of (by decide) ?_
  intro X Q as h hE C Z hG
  subst hE
  obtain ⟨p0, x1, x2, rfl, hh⟩ := hG
  refine ⟨[.ref p0, .int x1, .int x2, Value.null, Value.null, Value.null, Value.null], rfl, Nat.le_of_ble_eq_true rfl, ?_⟩
  exact bl_X7_hangs_0 C Z p0 x1 x2 h (hh (fun (p0 : Nat) (x1 : Int32) (x2 : Int32) (x3 : Int32) (x4 : Int32) (x5 : Int32) (h : aw_H) => Sat X 31 [.ref p0, .int x1, .int x2, .int x3, .int x4, .int x5, Value.null] [] h) (fun (p0 : Nat) (x1 : Int32) (x2 : Int32) (x3 : Int32) (x4 : Int32) (x5 : Int32) (x6 : Int32) (h : aw_H) => Sat X 70 [.ref p0, .int x1, .int x2, .int x3, .int x4, .int x5, .int x6] [] h) (fun p0 x1 x2 x3 x4 x5 h hh => bl_X7_hangs_31 C Z p0 x1 x2 x3 x4 x5 h hh) (fun p0 x1 x2 x3 x4 x5 x6 h hh => bl_X7_hangs_70 C Z p0 x1 x2 x3 x4 x5 x6 h hh))
theorem cv_X7_hangs (E : aw_F) : CV E yX7_hangs cX7_hangs 7 (some .int) 6 2 6 tr_X7_hangs := ⟨ct_X7_hangs E, by decide, kw_765, kw_766, kw_527, kw_764, by decide +kernel, _, _, rfl⟩
theorem dX7_layYet_0 : decode cX7_layYet 0 = .ok (.iconst 0, 1) := by decide +kernel
theorem dX7_layYet_1 : decode cX7_layYet 1 = .ok (.istore_n 2, 1) := by decide +kernel
theorem dX7_layYet_2 : decode cX7_layYet 2 = .ok (.iload_n 2, 1) := by decide +kernel
theorem dX7_layYet_3 : decode cX7_layYet 3 = .ok (.bipush 64, 2) := by decide +kernel
theorem dX7_layYet_5 : decode cX7_layYet 5 = .ok (.if_icmp .ge 18, 3) := by decide +kernel
theorem dX7_layYet_8 : decode cX7_layYet 8 = .ok (.aload_n 0, 1) := by decide +kernel
theorem dX7_layYet_9 : decode cX7_layYet 9 = .ok (.getfield 35, 3) := by decide +kernel
theorem dX7_layYet_12 : decode cX7_layYet 12 = .ok (.iload_n 2, 1) := by decide +kernel
theorem dX7_layYet_13 : decode cX7_layYet 13 = .ok (.sipush 9999, 3) := by decide +kernel
theorem dX7_layYet_16 : decode cX7_layYet 16 = .ok (.iastore, 1) := by decide +kernel
theorem dX7_layYet_17 : decode cX7_layYet 17 = .ok (.iinc 2 1, 3) := by decide +kernel
theorem dX7_layYet_20 : decode cX7_layYet 20 = .ok (.goto (-18), 3) := by decide +kernel
theorem dX7_layYet_23 : decode cX7_layYet 23 = .ok (.aload_n 0, 1) := by decide +kernel
theorem dX7_layYet_24 : decode cX7_layYet 24 = .ok (.getfield 35, 3) := by decide +kernel
theorem dX7_layYet_27 : decode cX7_layYet 27 = .ok (.iload_n 1, 1) := by decide +kernel
theorem dX7_layYet_28 : decode cX7_layYet 28 = .ok (.iconst 0, 1) := by decide +kernel
theorem dX7_layYet_29 : decode cX7_layYet 29 = .ok (.iastore, 1) := by decide +kernel
theorem dX7_layYet_30 : decode cX7_layYet 30 = .ok (.iconst 1, 1) := by decide +kernel
theorem dX7_layYet_31 : decode cX7_layYet 31 = .ok (.istore_n 2, 1) := by decide +kernel
theorem dX7_layYet_32 : decode cX7_layYet 32 = .ok (.iload_n 2, 1) := by decide +kernel
theorem dX7_layYet_33 : decode cX7_layYet 33 = .ok (.ifCond .eq 110, 3) := by decide +kernel
theorem dX7_layYet_36 : decode cX7_layYet 36 = .ok (.iconst 0, 1) := by decide +kernel
theorem dX7_layYet_37 : decode cX7_layYet 37 = .ok (.istore_n 2, 1) := by decide +kernel
theorem dX7_layYet_38 : decode cX7_layYet 38 = .ok (.iconst 0, 1) := by decide +kernel
theorem dX7_layYet_39 : decode cX7_layYet 39 = .ok (.istore_n 3, 1) := by decide +kernel
theorem dX7_layYet_40 : decode cX7_layYet 40 = .ok (.iload_n 3, 1) := by decide +kernel
theorem dX7_layYet_41 : decode cX7_layYet 41 = .ok (.aload_n 0, 1) := by decide +kernel
theorem dX7_layYet_42 : decode cX7_layYet 42 = .ok (.invokevirtual 38, 3) := by decide +kernel
theorem dX7_layYet_45 : decode cX7_layYet 45 = .ok (.if_icmp .ge 95, 3) := by decide +kernel
theorem dX7_layYet_48 : decode cX7_layYet 48 = .ok (.iconst 0, 1) := by decide +kernel
theorem dX7_layYet_49 : decode cX7_layYet 49 = .ok (.istore 4, 2) := by decide +kernel
theorem dX7_layYet_51 : decode cX7_layYet 51 = .ok (.iload 4, 2) := by decide +kernel
theorem dX7_layYet_53 : decode cX7_layYet 53 = .ok (.aload_n 0, 1) := by decide +kernel
theorem dX7_layYet_54 : decode cX7_layYet 54 = .ok (.getfield 7, 3) := by decide +kernel
theorem dX7_layYet_57 : decode cX7_layYet 57 = .ok (.iconst 1, 1) := by decide +kernel
theorem dX7_layYet_58 : decode cX7_layYet 58 = .ok (.iaload, 1) := by decide +kernel
theorem dX7_layYet_59 : decode cX7_layYet 59 = .ok (.if_icmp .ge 75, 3) := by decide +kernel
theorem dX7_layYet_62 : decode cX7_layYet 62 = .ok (.aload_n 0, 1) := by decide +kernel
theorem dX7_layYet_63 : decode cX7_layYet 63 = .ok (.getfield 35, 3) := by decide +kernel
theorem dX7_layYet_66 : decode cX7_layYet 66 = .ok (.aload_n 0, 1) := by decide +kernel
theorem dX7_layYet_67 : decode cX7_layYet 67 = .ok (.iconst 0, 1) := by decide +kernel
theorem dX7_layYet_68 : decode cX7_layYet 68 = .ok (.iload 4, 2) := by decide +kernel
theorem dX7_layYet_70 : decode cX7_layYet 70 = .ok (.iload_n 3, 1) := by decide +kernel
theorem dX7_layYet_71 : decode cX7_layYet 71 = .ok (.invokevirtual 83, 3) := by decide +kernel
theorem dX7_layYet_74 : decode cX7_layYet 74 = .ok (.iaload, 1) := by decide +kernel
theorem dX7_layYet_75 : decode cX7_layYet 75 = .ok (.iconst 1, 1) := by decide +kernel
theorem dX7_layYet_76 : decode cX7_layYet 76 = .ok (.iadd, 1) := by decide +kernel
theorem dX7_layYet_77 : decode cX7_layYet 77 = .ok (.istore 5, 2) := by decide +kernel
theorem dX7_layYet_79 : decode cX7_layYet 79 = .ok (.iload_n 2, 1) := by decide +kernel
theorem dX7_layYet_80 : decode cX7_layYet 80 = .ok (.ifCond .ne 14, 3) := by decide +kernel
theorem dX7_layYet_83 : decode cX7_layYet 83 = .ok (.iload 5, 2) := by decide +kernel
theorem dX7_layYet_85 : decode cX7_layYet 85 = .ok (.aload_n 0, 1) := by decide +kernel
theorem dX7_layYet_86 : decode cX7_layYet 86 = .ok (.getfield 35, 3) := by decide +kernel
theorem dX7_layYet_89 : decode cX7_layYet 89 = .ok (.iload_n 3, 1) := by decide +kernel
theorem dX7_layYet_90 : decode cX7_layYet 90 = .ok (.iaload, 1) := by decide +kernel
theorem dX7_layYet_91 : decode cX7_layYet 91 = .ok (.if_icmp .ge 7, 3) := by decide +kernel
theorem dX7_layYet_94 : decode cX7_layYet 94 = .ok (.iconst 1, 1) := by decide +kernel
theorem dX7_layYet_95 : decode cX7_layYet 95 = .ok (.goto 4, 3) := by decide +kernel
theorem dX7_layYet_98 : decode cX7_layYet 98 = .ok (.iconst 0, 1) := by decide +kernel
theorem dX7_layYet_99 : decode cX7_layYet 99 = .ok (.istore_n 2, 1) := by decide +kernel
theorem dX7_layYet_100 : decode cX7_layYet 100 = .ok (.aload_n 0, 1) := by decide +kernel
theorem dX7_layYet_101 : decode cX7_layYet 101 = .ok (.getfield 35, 3) := by decide +kernel
theorem dX7_layYet_104 : decode cX7_layYet 104 = .ok (.iload_n 3, 1) := by decide +kernel
theorem dX7_layYet_105 : decode cX7_layYet 105 = .ok (.iload 5, 2) := by decide +kernel
theorem dX7_layYet_107 : decode cX7_layYet 107 = .ok (.aload_n 0, 1) := by decide +kernel
theorem dX7_layYet_108 : decode cX7_layYet 108 = .ok (.getfield 35, 3) := by decide +kernel
theorem dX7_layYet_111 : decode cX7_layYet 111 = .ok (.iload_n 3, 1) := by decide +kernel
theorem dX7_layYet_112 : decode cX7_layYet 112 = .ok (.iaload, 1) := by decide +kernel
theorem dX7_layYet_113 : decode cX7_layYet 113 = .ok (.if_icmp .ge 8, 3) := by decide +kernel
theorem dX7_layYet_116 : decode cX7_layYet 116 = .ok (.iload 5, 2) := by decide +kernel
theorem dX7_layYet_118 : decode cX7_layYet 118 = .ok (.goto 9, 3) := by decide +kernel
theorem dX7_layYet_121 : decode cX7_layYet 121 = .ok (.aload_n 0, 1) := by decide +kernel
theorem dX7_layYet_122 : decode cX7_layYet 122 = .ok (.getfield 35, 3) := by decide +kernel
theorem dX7_layYet_125 : decode cX7_layYet 125 = .ok (.iload_n 3, 1) := by decide +kernel
theorem dX7_layYet_126 : decode cX7_layYet 126 = .ok (.iaload, 1) := by decide +kernel
theorem dX7_layYet_127 : decode cX7_layYet 127 = .ok (.iastore, 1) := by decide +kernel
theorem dX7_layYet_128 : decode cX7_layYet 128 = .ok (.iinc 4 1, 3) := by decide +kernel
theorem dX7_layYet_131 : decode cX7_layYet 131 = .ok (.goto (-80), 3) := by decide +kernel
theorem dX7_layYet_134 : decode cX7_layYet 134 = .ok (.iinc 3 1, 3) := by decide +kernel
theorem dX7_layYet_137 : decode cX7_layYet 137 = .ok (.goto (-97), 3) := by decide +kernel
theorem dX7_layYet_140 : decode cX7_layYet 140 = .ok (.goto (-108), 3) := by decide +kernel
theorem dX7_layYet_143 : decode cX7_layYet 143 = .ok (.return_, 1) := by decide +kernel
def sm_X7_layYet_99 (K2 : Nat → Int32 → Int32 → aw_H → Prop) (K32 : Nat → Int32 → aw_H → Prop) (K40 : Nat → Int32 → Int32 → aw_H → Prop) (K51 : Nat → Int32 → Int32 → Int32 → aw_H → Prop) (Q : aw_R) (p0 : Nat) (x3 : Int32) (x4 : Int32) (x5 : Int32) (xs0 : Int32) (h : aw_H) : Prop :=
  sg_R h p0 6 14 fun q1 => sg_R h p0 6 14 fun q2 => sa_I h q2 x3 fun v3 => if v3 ≤ x5 then (sg_R h p0 6 14 fun q4 => sa_I h q4 x3 fun v5 => ss_I h q1 x3 v5 fun h6 => K51 p0 xs0 x3 (x4 + 1) h6) else (ss_I h q1 x3 x5 fun h7 => K51 p0 xs0 x3 (x4 + 1) h7)
set_option maxRecDepth 100000 in
set_option maxHeartbeats 4000000 in
theorem bl_X7_layYet_99 {X : aw_X} {Q : aw_R} (C : aw_C X cX7_layYet RX7 6 4) (Z : aw_Z X cX7_layYet none Q) (p0 : Nat) (x3 : Int32) (x4 : Int32) (x5 : Int32) (xs0 : Int32) (h : aw_H) (hh : sm_X7_layYet_99 (fun (p0 : Nat) (x1 : Int32) (x2 : Int32) (h : aw_H) => Sat X 2 [.ref p0, .int x1, .int x2, Value.null, Value.null, Value.null] [] h) (fun (p0 : Nat) (x2 : Int32) (h : aw_H) => Sat X 32 [.ref p0, Value.null, .int x2, Value.null, Value.null, Value.null] [] h) (fun (p0 : Nat) (x2 : Int32) (x3 : Int32) (h : aw_H) => Sat X 40 [.ref p0, Value.null, .int x2, .int x3, Value.null, Value.null] [] h) (fun (p0 : Nat) (x2 : Int32) (x3 : Int32) (x4 : Int32) (h : aw_H) => Sat X 51 [.ref p0, Value.null, .int x2, .int x3, .int x4, Value.null] [] h) Q p0 x3 x4 x5 xs0 h) : Sat X 99 [.ref p0, Value.null, Value.null, .int x3, .int x4, .int x5] [.int xs0] h := by
  unfold sm_X7_layYet_99 at hh
  refine ow_istore_n (L' := [.ref p0, Value.null, .int xs0, .int x3, .int x4, .int x5]) C dX7_layYet_99 rfl (by decide) rfl ?_
  refine ow_aload_n C dX7_layYet_100 rfl rfl ?_
  refine ow_getR (ci := 6) (k := 14) (T := TX7) C rfl igX7 (by decide) kw_767 dX7_layYet_101 hh (fun q1 hh => ?_)
  refine ow_iload_n C dX7_layYet_104 rfl rfl ?_
  refine ow_iload C dX7_layYet_105 rfl ?_
  refine ow_aload_n C dX7_layYet_107 rfl rfl ?_
  refine ow_getR (ci := 6) (k := 14) (T := TX7) C rfl igX7 (by decide) kw_767 dX7_layYet_108 hh (fun q2 hh => ?_)
  refine ow_iload_n C dX7_layYet_111 rfl rfl ?_
  refine ow_iaload C dX7_layYet_112 hh (fun v3 hh => ?_)
  refine ow_icmp_ge (tgt := 121) C dX7_layYet_113 (by decide) hh (fun hh => ?_) (fun hh => ?_)
  · skip
    refine ow_aload_n C dX7_layYet_121 rfl rfl ?_
    refine ow_getR (ci := 6) (k := 14) (T := TX7) C rfl igX7 (by decide) kw_767 dX7_layYet_122 hh (fun q4 hh => ?_)
    refine ow_iload_n C dX7_layYet_125 rfl rfl ?_
    refine ow_iaload C dX7_layYet_126 hh (fun v5 hh => ?_)
    refine ow_iastore C dX7_layYet_127 hh (fun h6 hh => ?_)
    refine ow_iinc (v := x4 + 1) (L' := [.ref p0, Value.null, .int xs0, .int x3, .int (x4 + 1), .int x5]) C dX7_layYet_128 rfl rfl (by decide) rfl ?_
    refine ow_goto (tgt := 51) C dX7_layYet_131 (by decide) ?_
    exact Sat.mask hh (mk_y (mk_n (mk_y (mk_y (mk_y (mk_n mk_0))))))
  · skip
    refine ow_iload C dX7_layYet_116 rfl ?_
    refine ow_goto (tgt := 127) C dX7_layYet_118 (by decide) ?_
    refine ow_iastore C dX7_layYet_127 hh (fun h7 hh => ?_)
    refine ow_iinc (v := x4 + 1) (L' := [.ref p0, Value.null, .int xs0, .int x3, .int (x4 + 1), .int x5]) C dX7_layYet_128 rfl rfl (by decide) rfl ?_
    refine ow_goto (tgt := 51) C dX7_layYet_131 (by decide) ?_
    exact Sat.mask hh (mk_y (mk_n (mk_y (mk_y (mk_y (mk_n mk_0))))))
def sm_X7_layYet_51 (K2 : Nat → Int32 → Int32 → aw_H → Prop) (K32 : Nat → Int32 → aw_H → Prop) (K40 : Nat → Int32 → Int32 → aw_H → Prop) (K51 : Nat → Int32 → Int32 → Int32 → aw_H → Prop) (Q : aw_R) (p0 : Nat) (x2 : Int32) (x3 : Int32) (x4 : Int32) (h : aw_H) : Prop :=
  sg_R h p0 6 0 fun q1 => sa_I h q1 1 fun v2 => if v2 ≤ x4 then (K40 p0 x2 (x3 + 1) h) else (sg_R h p0 6 14 fun q3 => sv_O h p0 6 (tr_X7_doneIn [.ref p0, .int 0, .int x4, .int x3] h fun r5 h4 => sr_I r5 fun v6 => sa_I h4 q3 v6 fun v7 => if ¬ x2 = 0 then (sm_X7_layYet_99 K2 K32 K40 K51 Q p0 x3 x4 (v7 + 1) 1 h4) else (sg_R h4 p0 6 14 fun q8 => sa_I h4 q8 x3 fun v9 => if v9 ≤ (v7 + 1) then (sm_X7_layYet_99 K2 K32 K40 K51 Q p0 x3 x4 (v7 + 1) 0 h4) else (sm_X7_layYet_99 K2 K32 K40 K51 Q p0 x3 x4 (v7 + 1) 1 h4))))
set_option maxRecDepth 100000 in
set_option maxHeartbeats 4000000 in
theorem bl_X7_layYet_51 {X : aw_X} {Q : aw_R} (C : aw_C X cX7_layYet RX7 6 4) (Z : aw_Z X cX7_layYet none Q) (p0 : Nat) (x2 : Int32) (x3 : Int32) (x4 : Int32) (h : aw_H) (hh : sm_X7_layYet_51 (fun (p0 : Nat) (x1 : Int32) (x2 : Int32) (h : aw_H) => Sat X 2 [.ref p0, .int x1, .int x2, Value.null, Value.null, Value.null] [] h) (fun (p0 : Nat) (x2 : Int32) (h : aw_H) => Sat X 32 [.ref p0, Value.null, .int x2, Value.null, Value.null, Value.null] [] h) (fun (p0 : Nat) (x2 : Int32) (x3 : Int32) (h : aw_H) => Sat X 40 [.ref p0, Value.null, .int x2, .int x3, Value.null, Value.null] [] h) (fun (p0 : Nat) (x2 : Int32) (x3 : Int32) (x4 : Int32) (h : aw_H) => Sat X 51 [.ref p0, Value.null, .int x2, .int x3, .int x4, Value.null] [] h) Q p0 x2 x3 x4 h) : Sat X 51 [.ref p0, Value.null, .int x2, .int x3, .int x4, Value.null] [] h := by
  unfold sm_X7_layYet_51 at hh
  refine ow_iload C dX7_layYet_51 rfl ?_
  refine ow_aload_n C dX7_layYet_53 rfl rfl ?_
  refine ow_getR (ci := 6) (k := 0) (T := TX7) C rfl igX7 (by decide) kw_533 dX7_layYet_54 hh (fun q1 hh => ?_)
  refine ow_iconst (v := 1) C dX7_layYet_57 rfl ?_
  refine ow_iaload C dX7_layYet_58 hh (fun v2 hh => ?_)
  refine ow_icmp_ge (tgt := 134) C dX7_layYet_59 (by decide) hh (fun hh => ?_) (fun hh => ?_)
  · skip
    refine ow_iinc (v := x3 + 1) (L' := [.ref p0, Value.null, .int x2, .int (x3 + 1), .int x4, Value.null]) C dX7_layYet_134 rfl rfl (by decide) rfl ?_
    refine ow_goto (tgt := 40) C dX7_layYet_137 (by decide) ?_
    exact Sat.mask hh (mk_y (mk_n (mk_y (mk_y (mk_n (mk_n mk_0))))))
  · skip
    refine ow_aload_n C dX7_layYet_62 rfl rfl ?_
    refine ow_getR (ci := 6) (k := 14) (T := TX7) C rfl igX7 (by decide) kw_767 dX7_layYet_63 hh (fun q3 hh => ?_)
    refine ow_aload_n C dX7_layYet_66 rfl rfl ?_
    refine ow_iconst (v := 0) C dX7_layYet_67 rfl ?_
    refine ow_iload C dX7_layYet_68 rfl ?_
    refine ow_iload_n C dX7_layYet_70 rfl rfl ?_
    refine ow_callV C (cv_X7_doneIn _) (Nat.le_of_ble_eq_true rfl) kw_587 dX7_layYet_71 (as := [.int 0, .int x4, .int x3]) (st := [.ref q3]) rfl rfl (Nat.le_of_ble_eq_true rfl) hh (fun r5 h4 hq => ?_)
    obtain ⟨v6, rfl, hh⟩ := sr_I_e hq
    show Sat X 74 [.ref p0, Value.null, .int x2, .int x3, .int x4, Value.null] [.int v6, .ref q3] h4
    refine ow_iaload C dX7_layYet_74 hh (fun v7 hh => ?_)
    refine ow_iconst (v := 1) C dX7_layYet_75 rfl ?_
    refine ow_iadd C dX7_layYet_76 ?_
    refine ow_istore (L' := [.ref p0, Value.null, .int x2, .int x3, .int x4, .int (v7 + 1)]) C dX7_layYet_77 (by decide) rfl ?_
    refine ow_iload_n C dX7_layYet_79 rfl rfl ?_
    refine ow_if_ne (tgt := 94) C dX7_layYet_80 (by decide) hh (fun hh => ?_) (fun hh => ?_)
    · skip
      refine ow_iconst (v := 1) C dX7_layYet_94 rfl ?_
      refine ow_goto (tgt := 99) C dX7_layYet_95 (by decide) ?_
      exact Sat.mask (bl_X7_layYet_99 C Z p0 x3 x4 (v7 + 1) 1 h4 hh) (mk_y (mk_n (mk_n (mk_y (mk_y (mk_y mk_0))))))
    · skip
      refine ow_iload C dX7_layYet_83 rfl ?_
      refine ow_aload_n C dX7_layYet_85 rfl rfl ?_
      refine ow_getR (ci := 6) (k := 14) (T := TX7) C rfl igX7 (by decide) kw_767 dX7_layYet_86 hh (fun q8 hh => ?_)
      refine ow_iload_n C dX7_layYet_89 rfl rfl ?_
      refine ow_iaload C dX7_layYet_90 hh (fun v9 hh => ?_)
      refine ow_icmp_ge (tgt := 98) C dX7_layYet_91 (by decide) hh (fun hh => ?_) (fun hh => ?_)
      · skip
        refine ow_iconst (v := 0) C dX7_layYet_98 rfl ?_
        exact Sat.mask (bl_X7_layYet_99 C Z p0 x3 x4 (v7 + 1) 0 h4 hh) (mk_y (mk_n (mk_n (mk_y (mk_y (mk_y mk_0))))))
      · skip
        refine ow_iconst (v := 1) C dX7_layYet_94 rfl ?_
        refine ow_goto (tgt := 99) C dX7_layYet_95 (by decide) ?_
        exact Sat.mask (bl_X7_layYet_99 C Z p0 x3 x4 (v7 + 1) 1 h4 hh) (mk_y (mk_n (mk_n (mk_y (mk_y (mk_y mk_0))))))
def sm_X7_layYet_40 (K2 : Nat → Int32 → Int32 → aw_H → Prop) (K32 : Nat → Int32 → aw_H → Prop) (K40 : Nat → Int32 → Int32 → aw_H → Prop) (K51 : Nat → Int32 → Int32 → Int32 → aw_H → Prop) (Q : aw_R) (p0 : Nat) (x2 : Int32) (x3 : Int32) (h : aw_H) : Prop :=
  sv_O h p0 6 (tr_X7_states [.ref p0] h fun r2 h1 => sr_I r2 fun v3 => if v3 ≤ x3 then (K32 p0 x2 h1) else (K51 p0 x2 x3 0 h1))
set_option maxRecDepth 100000 in
set_option maxHeartbeats 4000000 in
theorem bl_X7_layYet_40 {X : aw_X} {Q : aw_R} (C : aw_C X cX7_layYet RX7 6 4) (Z : aw_Z X cX7_layYet none Q) (p0 : Nat) (x2 : Int32) (x3 : Int32) (h : aw_H) (hh : sm_X7_layYet_40 (fun (p0 : Nat) (x1 : Int32) (x2 : Int32) (h : aw_H) => Sat X 2 [.ref p0, .int x1, .int x2, Value.null, Value.null, Value.null] [] h) (fun (p0 : Nat) (x2 : Int32) (h : aw_H) => Sat X 32 [.ref p0, Value.null, .int x2, Value.null, Value.null, Value.null] [] h) (fun (p0 : Nat) (x2 : Int32) (x3 : Int32) (h : aw_H) => Sat X 40 [.ref p0, Value.null, .int x2, .int x3, Value.null, Value.null] [] h) (fun (p0 : Nat) (x2 : Int32) (x3 : Int32) (x4 : Int32) (h : aw_H) => Sat X 51 [.ref p0, Value.null, .int x2, .int x3, .int x4, Value.null] [] h) Q p0 x2 x3 h) : Sat X 40 [.ref p0, Value.null, .int x2, .int x3, Value.null, Value.null] [] h := by
  unfold sm_X7_layYet_40 at hh
  refine ow_iload_n C dX7_layYet_40 rfl rfl ?_
  refine ow_aload_n C dX7_layYet_41 rfl rfl ?_
  refine ow_callV C (cv_X7_states _) (Nat.le_of_ble_eq_true rfl) kw_540 dX7_layYet_42 (as := []) (st := [.int x3]) rfl rfl (Nat.le_of_ble_eq_true rfl) hh (fun r2 h1 hq => ?_)
  obtain ⟨v3, rfl, hh⟩ := sr_I_e hq
  show Sat X 45 [.ref p0, Value.null, .int x2, .int x3, Value.null, Value.null] [.int v3, .int x3] h1
  refine ow_icmp_ge (tgt := 140) C dX7_layYet_45 (by decide) hh (fun hh => ?_) (fun hh => ?_)
  · skip
    refine ow_goto (tgt := 32) C dX7_layYet_140 (by decide) ?_
    exact Sat.mask hh (mk_y (mk_n (mk_y (mk_n (mk_n (mk_n mk_0))))))
  · skip
    refine ow_iconst (v := 0) C dX7_layYet_48 rfl ?_
    refine ow_istore (L' := [.ref p0, Value.null, .int x2, .int x3, .int 0, Value.null]) C dX7_layYet_49 (by decide) rfl ?_
    exact Sat.mask hh (mk_y (mk_n (mk_y (mk_y (mk_y (mk_n mk_0))))))
def sm_X7_layYet_32 (K2 : Nat → Int32 → Int32 → aw_H → Prop) (K32 : Nat → Int32 → aw_H → Prop) (K40 : Nat → Int32 → Int32 → aw_H → Prop) (K51 : Nat → Int32 → Int32 → Int32 → aw_H → Prop) (Q : aw_R) (p0 : Nat) (x2 : Int32) (h : aw_H) : Prop :=
  if x2 = 0 then (Q none h) else (K40 p0 0 0 h)
set_option maxRecDepth 100000 in
set_option maxHeartbeats 4000000 in
theorem bl_X7_layYet_32 {X : aw_X} {Q : aw_R} (C : aw_C X cX7_layYet RX7 6 4) (Z : aw_Z X cX7_layYet none Q) (p0 : Nat) (x2 : Int32) (h : aw_H) (hh : sm_X7_layYet_32 (fun (p0 : Nat) (x1 : Int32) (x2 : Int32) (h : aw_H) => Sat X 2 [.ref p0, .int x1, .int x2, Value.null, Value.null, Value.null] [] h) (fun (p0 : Nat) (x2 : Int32) (h : aw_H) => Sat X 32 [.ref p0, Value.null, .int x2, Value.null, Value.null, Value.null] [] h) (fun (p0 : Nat) (x2 : Int32) (x3 : Int32) (h : aw_H) => Sat X 40 [.ref p0, Value.null, .int x2, .int x3, Value.null, Value.null] [] h) (fun (p0 : Nat) (x2 : Int32) (x3 : Int32) (x4 : Int32) (h : aw_H) => Sat X 51 [.ref p0, Value.null, .int x2, .int x3, .int x4, Value.null] [] h) Q p0 x2 h) : Sat X 32 [.ref p0, Value.null, .int x2, Value.null, Value.null, Value.null] [] h := by
  unfold sm_X7_layYet_32 at hh
  refine ow_iload_n C dX7_layYet_32 rfl rfl ?_
  refine ow_if_eq (tgt := 143) C dX7_layYet_33 (by decide) hh (fun hh => ?_) (fun hh => ?_)
  · skip
    exact ow_vret Z dX7_layYet_143 trivial hh
  · skip
    refine ow_iconst (v := 0) C dX7_layYet_36 rfl ?_
    refine ow_istore_n (L' := [.ref p0, Value.null, .int 0, Value.null, Value.null, Value.null]) C dX7_layYet_37 rfl (by decide) rfl ?_
    refine ow_iconst (v := 0) C dX7_layYet_38 rfl ?_
    refine ow_istore_n (L' := [.ref p0, Value.null, .int 0, .int 0, Value.null, Value.null]) C dX7_layYet_39 rfl (by decide) rfl ?_
    exact Sat.mask hh (mk_y (mk_n (mk_y (mk_y (mk_n (mk_n mk_0))))))
def sm_X7_layYet_2 (K2 : Nat → Int32 → Int32 → aw_H → Prop) (K32 : Nat → Int32 → aw_H → Prop) (K40 : Nat → Int32 → Int32 → aw_H → Prop) (K51 : Nat → Int32 → Int32 → Int32 → aw_H → Prop) (Q : aw_R) (p0 : Nat) (x1 : Int32) (x2 : Int32) (h : aw_H) : Prop :=
  if 64 ≤ x2 then (sg_R h p0 6 14 fun q1 => ss_I h q1 x1 0 fun h2 => K32 p0 1 h2) else (sg_R h p0 6 14 fun q3 => ss_I h q3 x2 9999 fun h4 => K2 p0 x1 (x2 + 1) h4)
set_option maxRecDepth 100000 in
set_option maxHeartbeats 4000000 in
theorem bl_X7_layYet_2 {X : aw_X} {Q : aw_R} (C : aw_C X cX7_layYet RX7 6 4) (Z : aw_Z X cX7_layYet none Q) (p0 : Nat) (x1 : Int32) (x2 : Int32) (h : aw_H) (hh : sm_X7_layYet_2 (fun (p0 : Nat) (x1 : Int32) (x2 : Int32) (h : aw_H) => Sat X 2 [.ref p0, .int x1, .int x2, Value.null, Value.null, Value.null] [] h) (fun (p0 : Nat) (x2 : Int32) (h : aw_H) => Sat X 32 [.ref p0, Value.null, .int x2, Value.null, Value.null, Value.null] [] h) (fun (p0 : Nat) (x2 : Int32) (x3 : Int32) (h : aw_H) => Sat X 40 [.ref p0, Value.null, .int x2, .int x3, Value.null, Value.null] [] h) (fun (p0 : Nat) (x2 : Int32) (x3 : Int32) (x4 : Int32) (h : aw_H) => Sat X 51 [.ref p0, Value.null, .int x2, .int x3, .int x4, Value.null] [] h) Q p0 x1 x2 h) : Sat X 2 [.ref p0, .int x1, .int x2, Value.null, Value.null, Value.null] [] h := by
  unfold sm_X7_layYet_2 at hh
  refine ow_iload_n C dX7_layYet_2 rfl rfl ?_
  refine ow_bipush (v := 64) C dX7_layYet_3 rfl ?_
  refine ow_icmp_ge (tgt := 23) C dX7_layYet_5 (by decide) hh (fun hh => ?_) (fun hh => ?_)
  · skip
    refine ow_aload_n C dX7_layYet_23 rfl rfl ?_
    refine ow_getR (ci := 6) (k := 14) (T := TX7) C rfl igX7 (by decide) kw_767 dX7_layYet_24 hh (fun q1 hh => ?_)
    refine ow_iload_n C dX7_layYet_27 rfl rfl ?_
    refine ow_iconst (v := 0) C dX7_layYet_28 rfl ?_
    refine ow_iastore C dX7_layYet_29 hh (fun h2 hh => ?_)
    refine ow_iconst (v := 1) C dX7_layYet_30 rfl ?_
    refine ow_istore_n (L' := [.ref p0, .int x1, .int 1, Value.null, Value.null, Value.null]) C dX7_layYet_31 rfl (by decide) rfl ?_
    exact Sat.mask hh (mk_y (mk_n (mk_y (mk_n (mk_n (mk_n mk_0))))))
  · skip
    refine ow_aload_n C dX7_layYet_8 rfl rfl ?_
    refine ow_getR (ci := 6) (k := 14) (T := TX7) C rfl igX7 (by decide) kw_767 dX7_layYet_9 hh (fun q3 hh => ?_)
    refine ow_iload_n C dX7_layYet_12 rfl rfl ?_
    refine ow_sipush (v := 9999) C dX7_layYet_13 rfl ?_
    refine ow_iastore C dX7_layYet_16 hh (fun h4 hh => ?_)
    refine ow_iinc (v := x2 + 1) (L' := [.ref p0, .int x1, .int (x2 + 1), Value.null, Value.null, Value.null]) C dX7_layYet_17 rfl rfl (by decide) rfl ?_
    refine ow_goto (tgt := 2) C dX7_layYet_20 (by decide) ?_
    exact Sat.mask hh (mk_y (mk_y (mk_y (mk_n (mk_n (mk_n mk_0))))))
def sm_X7_layYet_0 (K2 : Nat → Int32 → Int32 → aw_H → Prop) (K32 : Nat → Int32 → aw_H → Prop) (K40 : Nat → Int32 → Int32 → aw_H → Prop) (K51 : Nat → Int32 → Int32 → Int32 → aw_H → Prop) (Q : aw_R) (p0 : Nat) (x1 : Int32) (h : aw_H) : Prop :=
  K2 p0 x1 0 h
set_option maxRecDepth 100000 in
set_option maxHeartbeats 4000000 in
theorem bl_X7_layYet_0 {X : aw_X} {Q : aw_R} (C : aw_C X cX7_layYet RX7 6 4) (Z : aw_Z X cX7_layYet none Q) (p0 : Nat) (x1 : Int32) (h : aw_H) (hh : sm_X7_layYet_0 (fun (p0 : Nat) (x1 : Int32) (x2 : Int32) (h : aw_H) => Sat X 2 [.ref p0, .int x1, .int x2, Value.null, Value.null, Value.null] [] h) (fun (p0 : Nat) (x2 : Int32) (h : aw_H) => Sat X 32 [.ref p0, Value.null, .int x2, Value.null, Value.null, Value.null] [] h) (fun (p0 : Nat) (x2 : Int32) (x3 : Int32) (h : aw_H) => Sat X 40 [.ref p0, Value.null, .int x2, .int x3, Value.null, Value.null] [] h) (fun (p0 : Nat) (x2 : Int32) (x3 : Int32) (x4 : Int32) (h : aw_H) => Sat X 51 [.ref p0, Value.null, .int x2, .int x3, .int x4, Value.null] [] h) Q p0 x1 h) : Sat X 0 [.ref p0, .int x1, Value.null, Value.null, Value.null, Value.null] [] h := by
  unfold sm_X7_layYet_0 at hh
  refine ow_iconst (v := 0) C dX7_layYet_0 rfl ?_
  refine ow_istore_n (L' := [.ref p0, .int x1, .int 0, Value.null, Value.null, Value.null]) C dX7_layYet_1 rfl (by decide) rfl ?_
  exact Sat.mask hh (mk_y (mk_y (mk_y (mk_n (mk_n (mk_n mk_0))))))
def tr_X7_layYet : aw_T := fun as h Q => ∃ (p0 : Nat) (x1 : Int32), as = [.ref p0, .int x1] ∧ (∀ (K2 : Nat → Int32 → Int32 → aw_H → Prop) (K32 : Nat → Int32 → aw_H → Prop) (K40 : Nat → Int32 → Int32 → aw_H → Prop) (K51 : Nat → Int32 → Int32 → Int32 → aw_H → Prop), (∀ (p0 : Nat) (x1 : Int32) (x2 : Int32) (h : aw_H), sm_X7_layYet_2 K2 K32 K40 K51 Q p0 x1 x2 h → K2 p0 x1 x2 h) → (∀ (p0 : Nat) (x2 : Int32) (h : aw_H), sm_X7_layYet_32 K2 K32 K40 K51 Q p0 x2 h → K32 p0 x2 h) → (∀ (p0 : Nat) (x2 : Int32) (x3 : Int32) (h : aw_H), sm_X7_layYet_40 K2 K32 K40 K51 Q p0 x2 x3 h → K40 p0 x2 x3 h) → (∀ (p0 : Nat) (x2 : Int32) (x3 : Int32) (x4 : Int32) (h : aw_H), sm_X7_layYet_51 K2 K32 K40 K51 Q p0 x2 x3 x4 h → K51 p0 x2 x3 x4 h) → sm_X7_layYet_0 K2 K32 K40 K51 Q p0 x1 h)
theorem tq_X7_layYet {p0 : Nat} {x1 : Int32} {h : aw_H} {Q : aw_R} : tr_X7_layYet [.ref p0, .int x1] h Q ↔ (∀ (K2 : Nat → Int32 → Int32 → aw_H → Prop) (K32 : Nat → Int32 → aw_H → Prop) (K40 : Nat → Int32 → Int32 → aw_H → Prop) (K51 : Nat → Int32 → Int32 → Int32 → aw_H → Prop), (∀ (p0 : Nat) (x1 : Int32) (x2 : Int32) (h : aw_H), sm_X7_layYet_2 K2 K32 K40 K51 Q p0 x1 x2 h → K2 p0 x1 x2 h) → (∀ (p0 : Nat) (x2 : Int32) (h : aw_H), sm_X7_layYet_32 K2 K32 K40 K51 Q p0 x2 h → K32 p0 x2 h) → (∀ (p0 : Nat) (x2 : Int32) (x3 : Int32) (h : aw_H), sm_X7_layYet_40 K2 K32 K40 K51 Q p0 x2 x3 h → K40 p0 x2 x3 h) → (∀ (p0 : Nat) (x2 : Int32) (x3 : Int32) (x4 : Int32) (h : aw_H), sm_X7_layYet_51 K2 K32 K40 K51 Q p0 x2 x3 x4 h → K51 p0 x2 x3 x4 h) → sm_X7_layYet_0 K2 K32 K40 K51 Q p0 x1 h) := by
  constructor
  · rintro ⟨_, _, as0, hh⟩
    cases as0
    exact hh
  · intro hh
    exact ⟨_, _, rfl, hh⟩
theorem ct_X7_layYet (E : aw_F) : CT E yX7_layYet cX7_layYet 6 none 4 tr_X7_layYet := by
  refine ct_of (by decide) ?_
  intro X Q as h hE C Z hG
  subst hE
  obtain ⟨p0, x1, rfl, hh⟩ := hG
  refine ⟨[.ref p0, .int x1, Value.null, Value.null, Value.null, Value.null], rfl, Nat.le_of_ble_eq_true rfl, ?_⟩
  exact bl_X7_layYet_0 C Z p0 x1 h (hh (fun (p0 : Nat) (x1 : Int32) (x2 : Int32) (h : aw_H) => Sat X 2 [.ref p0, .int x1, .int x2, Value.null, Value.null, Value.null] [] h) (fun (p0 : Nat) (x2 : Int32) (h : aw_H) => Sat X 32 [.ref p0, Value.null, .int x2, Value.null, Value.null, Value.null] [] h) (fun (p0 : Nat) (x2 : Int32) (x3 : Int32) (h : aw_H) => Sat X 40 [.ref p0, Value.null, .int x2, .int x3, Value.null, Value.null] [] h) (fun (p0 : Nat) (x2 : Int32) (x3 : Int32) (x4 : Int32) (h : aw_H) => Sat X 51 [.ref p0, Value.null, .int x2, .int x3, .int x4, Value.null] [] h) (fun p0 x1 x2 h hh => bl_X7_layYet_2 C Z p0 x1 x2 h hh) (fun p0 x2 h hh => bl_X7_layYet_32 C Z p0 x2 h hh) (fun p0 x2 x3 h hh => bl_X7_layYet_40 C Z p0 x2 x3 h hh) (fun p0 x2 x3 x4 h hh => bl_X7_layYet_51 C Z p0 x2 x3 x4 h hh))
theorem cv_X7_layYet (E : aw_F) : CV E yX7_layYet cX7_layYet 6 none 4 1 6 tr_X7_layYet := ⟨ct_X7_layYet E, by decide, kw_769, kw_770, kw_527, kw_768, by decide +kernel, _, _, rfl⟩
