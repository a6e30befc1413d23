theorem dX7_kthOn_0 : decode cX7_kthOn 0 = .ok (.iload_n 1, 1) := by decide +kernel
theorem dX7_kthOn_1 : decode cX7_kthOn 1 = .ok (.istore_n 3, 1) := by decide +kernel
theorem dX7_kthOn_2 : decode cX7_kthOn 2 = .ok (.iconst 0, 1) := by decide +kernel
theorem dX7_kthOn_3 : decode cX7_kthOn 3 = .ok (.istore 4, 2) := by decide +kernel
theorem dX7_kthOn_5 : decode cX7_kthOn 5 = .ok (.iload 4, 2) := by decide +kernel
theorem dX7_kthOn_7 : decode cX7_kthOn 7 = .ok (.iload_n 2, 1) := by decide +kernel
theorem dX7_kthOn_8 : decode cX7_kthOn 8 = .ok (.if_icmp .gt 69, 3) := by decide +kernel
theorem dX7_kthOn_11 : decode cX7_kthOn 11 = .ok (.aload_n 0, 1) := by decide +kernel
theorem dX7_kthOn_12 : decode cX7_kthOn 12 = .ok (.getfield 35, 3) := by decide +kernel
theorem dX7_kthOn_15 : decode cX7_kthOn 15 = .ok (.iload_n 3, 1) := by decide +kernel
theorem dX7_kthOn_16 : decode cX7_kthOn 16 = .ok (.iaload, 1) := by decide +kernel
theorem dX7_kthOn_17 : decode cX7_kthOn 17 = .ok (.ifCond .le 60, 3) := by decide +kernel
theorem dX7_kthOn_20 : decode cX7_kthOn 20 = .ok (.iconst 0, 1) := by decide +kernel
theorem dX7_kthOn_21 : decode cX7_kthOn 21 = .ok (.istore 5, 2) := by decide +kernel
theorem dX7_kthOn_23 : decode cX7_kthOn 23 = .ok (.aload_n 0, 1) := by decide +kernel
theorem dX7_kthOn_24 : decode cX7_kthOn 24 = .ok (.getfield 35, 3) := by decide +kernel
theorem dX7_kthOn_27 : decode cX7_kthOn 27 = .ok (.aload_n 0, 1) := by decide +kernel
theorem dX7_kthOn_28 : decode cX7_kthOn 28 = .ok (.iconst 0, 1) := by decide +kernel
theorem dX7_kthOn_29 : decode cX7_kthOn 29 = .ok (.iload 5, 2) := by decide +kernel
theorem dX7_kthOn_31 : decode cX7_kthOn 31 = .ok (.iload_n 3, 1) := by decide +kernel
theorem dX7_kthOn_32 : decode cX7_kthOn 32 = .ok (.invokevirtual 83, 3) := by decide +kernel
theorem dX7_kthOn_35 : decode cX7_kthOn 35 = .ok (.iaload, 1) := by decide +kernel
theorem dX7_kthOn_36 : decode cX7_kthOn 36 = .ok (.aload_n 0, 1) := by decide +kernel
theorem dX7_kthOn_37 : decode cX7_kthOn 37 = .ok (.getfield 35, 3) := by decide +kernel
theorem dX7_kthOn_40 : decode cX7_kthOn 40 = .ok (.iload_n 3, 1) := by decide +kernel
theorem dX7_kthOn_41 : decode cX7_kthOn 41 = .ok (.iaload, 1) := by decide +kernel
theorem dX7_kthOn_42 : decode cX7_kthOn 42 = .ok (.iconst 1, 1) := by decide +kernel
theorem dX7_kthOn_43 : decode cX7_kthOn 43 = .ok (.isub, 1) := by decide +kernel
theorem dX7_kthOn_44 : decode cX7_kthOn 44 = .ok (.if_icmp .eq 9, 3) := by decide +kernel
theorem dX7_kthOn_47 : decode cX7_kthOn 47 = .ok (.iinc 5 1, 3) := by decide +kernel
theorem dX7_kthOn_50 : decode cX7_kthOn 50 = .ok (.goto (-27), 3) := by decide +kernel
theorem dX7_kthOn_53 : decode cX7_kthOn 53 = .ok (.iload 4, 2) := by decide +kernel
theorem dX7_kthOn_55 : decode cX7_kthOn 55 = .ok (.iload_n 2, 1) := by decide +kernel
theorem dX7_kthOn_56 : decode cX7_kthOn 56 = .ok (.if_icmp .ne 6, 3) := by decide +kernel
theorem dX7_kthOn_59 : decode cX7_kthOn 59 = .ok (.iload 5, 2) := by decide +kernel
theorem dX7_kthOn_61 : decode cX7_kthOn 61 = .ok (.ireturn, 1) := by decide +kernel
theorem dX7_kthOn_62 : decode cX7_kthOn 62 = .ok (.aload_n 0, 1) := by decide +kernel
theorem dX7_kthOn_63 : decode cX7_kthOn 63 = .ok (.iconst 0, 1) := by decide +kernel
theorem dX7_kthOn_64 : decode cX7_kthOn 64 = .ok (.iload 5, 2) := by decide +kernel
theorem dX7_kthOn_66 : decode cX7_kthOn 66 = .ok (.iload_n 3, 1) := by decide +kernel
theorem dX7_kthOn_67 : decode cX7_kthOn 67 = .ok (.invokevirtual 83, 3) := by decide +kernel
theorem dX7_kthOn_70 : decode cX7_kthOn 70 = .ok (.istore_n 3, 1) := by decide +kernel
theorem dX7_kthOn_71 : decode cX7_kthOn 71 = .ok (.iinc 4 1, 3) := by decide +kernel
theorem dX7_kthOn_74 : decode cX7_kthOn 74 = .ok (.goto (-69), 3) := by decide +kernel
theorem dX7_kthOn_77 : decode cX7_kthOn 77 = .ok (.bipush (-4), 2) := by decide +kernel
theorem dX7_kthOn_79 : decode cX7_kthOn 79 = .ok (.ireturn, 1) := by decide +kernel
def sm_X7_kthOn_23 (K5 : Nat → Int32 → Int32 → Int32 → aw_H → Prop) (K23 : Nat → Int32 → Int32 → Int32 → Int32 → aw_H → Prop) (Q : aw_R) (p0 : Nat) (x2 : Int32) (x3 : Int32) (x4 : Int32) (x5 : Int32) (h : aw_H) : Prop :=
  sg_R h p0 6 14 fun q1 => sv_O h p0 6 (tr_X7_doneIn [.ref p0, .int 0, .int x5, .int x3] h fun r3 h2 => sr_I r3 fun v4 => sa_I h2 q1 v4 fun v5 => sg_R h2 p0 6 14 fun q6 => sa_I h2 q6 x3 fun v7 => if v5 = (v7 - 1) then (if ¬ x4 = x2 then (sv_O h2 p0 6 (tr_X7_doneIn [.ref p0, .int 0, .int x5, .int x3] h2 fun r9 h8 => sr_I r9 fun v10 => K5 p0 x2 v10 (x4 + 1) h8)) else (Q (some (.int x5)) h2)) else (K23 p0 x2 x3 x4 (x5 + 1) h2))
set_option maxRecDepth 100000 in
set_option maxHeartbeats 4000000 in
theorem bl_X7_kthOn_23 {X : aw_X} {Q : aw_R} (C : aw_C X cX7_kthOn RX7 6 4) (Z : aw_Z X cX7_kthOn (some .int) Q) (p0 : Nat) (x2 : Int32) (x3 : Int32) (x4 : Int32) (x5 : Int32) (h : aw_H) (hh : sm_X7_kthOn_23 (fun (p0 : Nat) (x2 : Int32) (x3 : Int32) (x4 : Int32) (h : aw_H) => Sat X 5 [.ref p0, Value.null, .int x2, .int x3, .int x4, Value.null] [] h) (fun (p0 : Nat) (x2 : Int32) (x3 : Int32) (x4 : Int32) (x5 : Int32) (h : aw_H) => Sat X 23 [.ref p0, Value.null, .int x2, .int x3, .int x4, .int x5] [] h) Q p0 x2 x3 x4 x5 h) : Sat X 23 [.ref p0, Value.null, .int x2, .int x3, .int x4, .int x5] [] h := by
  unfold sm_X7_kthOn_23 at hh
  refine ow_aload_n C dX7_kthOn_23 rfl rfl ?_
  refine ow_getR (ci := 6) (k := 14) (T := TX7) C rfl igX7 (by decide) kw_767 dX7_kthOn_24 hh (fun q1 hh => ?_)
  refine ow_aload_n C dX7_kthOn_27 rfl rfl ?_
  refine ow_iconst (v := 0) C dX7_kthOn_28 rfl ?_
  refine ow_iload C dX7_kthOn_29 rfl ?_
  refine ow_iload_n C dX7_kthOn_31 rfl rfl ?_
  refine ow_callV C (cv_X7_doneIn _) (Nat.le_of_ble_eq_true rfl) kw_587 dX7_kthOn_32 (as := [.int 0, .int x5, .int x3]) (st := [.ref q1]) rfl rfl (Nat.le_of_ble_eq_true rfl) hh (fun r3 h2 hq => ?_)
  obtain ⟨v4, rfl, hh⟩ := sr_I_e hq
  show Sat X 35 [.ref p0, Value.null, .int x2, .int x3, .int x4, .int x5] [.int v4, .ref q1] h2
  refine ow_iaload C dX7_kthOn_35 hh (fun v5 hh => ?_)
  refine ow_aload_n C dX7_kthOn_36 rfl rfl ?_
  refine ow_getR (ci := 6) (k := 14) (T := TX7) C rfl igX7 (by decide) kw_767 dX7_kthOn_37 hh (fun q6 hh => ?_)
  refine ow_iload_n C dX7_kthOn_40 rfl rfl ?_
  refine ow_iaload C dX7_kthOn_41 hh (fun v7 hh => ?_)
  refine ow_iconst (v := 1) C dX7_kthOn_42 rfl ?_
  refine ow_isub C dX7_kthOn_43 ?_
  refine ow_icmp_eq (tgt := 53) C dX7_kthOn_44 (by decide) hh (fun hh => ?_) (fun hh => ?_)
  · skip
    refine ow_iload C dX7_kthOn_53 rfl ?_
    refine ow_iload_n C dX7_kthOn_55 rfl rfl ?_
    refine ow_icmp_ne (tgt := 62) C dX7_kthOn_56 (by decide) hh (fun hh => ?_) (fun hh => ?_)
    · skip
      refine ow_aload_n C dX7_kthOn_62 rfl rfl ?_
      refine ow_iconst (v := 0) C dX7_kthOn_63 rfl ?_
      refine ow_iload C dX7_kthOn_64 rfl ?_
      refine ow_iload_n C dX7_kthOn_66 rfl rfl ?_
      refine ow_callV C (cv_X7_doneIn _) (Nat.le_of_ble_eq_true rfl) kw_587 dX7_kthOn_67 (as := [.int 0, .int x5, .int x3]) (st := []) rfl rfl (Nat.le_of_ble_eq_true rfl) hh (fun r9 h8 hq => ?_)
      obtain ⟨v10, rfl, hh⟩ := sr_I_e hq
      show Sat X 70 [.ref p0, Value.null, .int x2, .int x3, .int x4, .int x5] [.int v10] h8
      refine ow_istore_n (L' := [.ref p0, Value.null, .int x2, .int v10, .int x4, .int x5]) C dX7_kthOn_70 rfl (by decide) rfl ?_
      refine ow_iinc (v := x4 + 1) (L' := [.ref p0, Value.null, .int x2, .int v10, .int (x4 + 1), .int x5]) C dX7_kthOn_71 rfl rfl (by decide) rfl ?_
      refine ow_goto (tgt := 5) C dX7_kthOn_74 (by decide) ?_
      exact Sat.mask hh (mk_y (mk_n (mk_y (mk_y (mk_y (mk_n mk_0))))))
    · skip
      refine ow_iload C dX7_kthOn_59 rfl ?_
      exact ow_iret Z dX7_kthOn_61 trivial hh
  · skip
    refine ow_iinc (v := x5 + 1) (L' := [.ref p0, Value.null, .int x2, .int x3, .int x4, .int (x5 + 1)]) C dX7_kthOn_47 rfl rfl (by decide) rfl ?_
    refine ow_goto (tgt := 23) C dX7_kthOn_50 (by decide) ?_
    exact Sat.mask hh (mk_y (mk_n (mk_y (mk_y (mk_y (mk_y mk_0))))))
def sm_X7_kthOn_5 (K5 : Nat → Int32 → Int32 → Int32 → aw_H → Prop) (K23 : Nat → Int32 → Int32 → Int32 → Int32 → aw_H → Prop) (Q : aw_R) (p0 : Nat) (x2 : Int32) (x3 : Int32) (x4 : Int32) (h : aw_H) : Prop :=
  if x2 < x4 then (Q (some (.int ((-4)))) h) else (sg_R h p0 6 14 fun q1 => sa_I h q1 x3 fun v2 => if v2 ≤ 0 then (Q (some (.int ((-4)))) h) else (K23 p0 x2 x3 x4 0 h))
set_option maxRecDepth 100000 in
set_option maxHeartbeats 4000000 in
theorem bl_X7_kthOn_5 {X : aw_X} {Q : aw_R} (C : aw_C X cX7_kthOn RX7 6 4) (Z : aw_Z X cX7_kthOn (some .int) Q) (p0 : Nat) (x2 : Int32) (x3 : Int32) (x4 : Int32) (h : aw_H) (hh : sm_X7_kthOn_5 (fun (p0 : Nat) (x2 : Int32) (x3 : Int32) (x4 : Int32) (h : aw_H) => Sat X 5 [.ref p0, Value.null, .int x2, .int x3, .int x4, Value.null] [] h) (fun (p0 : Nat) (x2 : Int32) (x3 : Int32) (x4 : Int32) (x5 : Int32) (h : aw_H) => Sat X 23 [.ref p0, Value.null, .int x2, .int x3, .int x4, .int x5] [] h) Q p0 x2 x3 x4 h) : Sat X 5 [.ref p0, Value.null, .int x2, .int x3, .int x4, Value.null] [] h := by
  unfold sm_X7_kthOn_5 at hh
  refine ow_iload C dX7_kthOn_5 rfl ?_
  refine ow_iload_n C dX7_kthOn_7 rfl rfl ?_
  refine ow_icmp_gt (tgt := 77) C dX7_kthOn_8 (by decide) hh (fun hh => ?_) (fun hh => ?_)
  · skip
    refine ow_bipush (v := (-4)) C dX7_kthOn_77 rfl ?_
    exact ow_iret Z dX7_kthOn_79 trivial hh
  · skip
    refine ow_aload_n C dX7_kthOn_11 rfl rfl ?_
    refine ow_getR (ci := 6) (k := 14) (T := TX7) C rfl igX7 (by decide) kw_767 dX7_kthOn_12 hh (fun q1 hh => ?_)
    refine ow_iload_n C dX7_kthOn_15 rfl rfl ?_
    refine ow_iaload C dX7_kthOn_16 hh (fun v2 hh => ?_)
    refine ow_if_le (tgt := 77) C dX7_kthOn_17 (by decide) hh (fun hh => ?_) (fun hh => ?_)
    · skip
      refine ow_bipush (v := (-4)) C dX7_kthOn_77 rfl ?_
      exact ow_iret Z dX7_kthOn_79 trivial hh
    · skip
      refine ow_iconst (v := 0) C dX7_kthOn_20 rfl ?_
      refine ow_istore (L' := [.ref p0, Value.null, .int x2, .int x3, .int x4, .int 0]) C dX7_kthOn_21 (by decide) rfl ?_
      exact Sat.mask hh (mk_y (mk_n (mk_y (mk_y (mk_y (mk_y mk_0))))))
def sm_X7_kthOn_0 (K5 : Nat → Int32 → Int32 → Int32 → aw_H → Prop) (K23 : Nat → Int32 → Int32 → Int32 → Int32 → aw_H → Prop) (Q : aw_R) (p0 : Nat) (x1 : Int32) (x2 : Int32) (h : aw_H) : Prop :=
  K5 p0 x2 x1 0 h
set_option maxRecDepth 100000 in
set_option maxHeartbeats 4000000 in
theorem bl_X7_kthOn_0 {X : aw_X} {Q : aw_R} (C : aw_C X cX7_kthOn RX7 6 4) (Z : aw_Z X cX7_kthOn (some .int) Q) (p0 : Nat) (x1 : Int32) (x2 : Int32) (h : aw_H) (hh : sm_X7_kthOn_0 (fun (p0 : Nat) (x2 : Int32) (x3 : Int32) (x4 : Int32) (h : aw_H) => Sat X 5 [.ref p0, Value.null, .int x2, .int x3, .int x4, Value.null] [] h) (fun (p0 : Nat) (x2 : Int32) (x3 : Int32) (x4 : Int32) (x5 : Int32) (h : aw_H) => Sat X 23 [.ref p0, Value.null, .int x2, .int x3, .int x4, .int x5] [] h) Q p0 x1 x2 h) : Sat X 0 [.ref p0, .int x1, .int x2, Value.null, Value.null, Value.null] [] h := by
  unfold sm_X7_kthOn_0 at hh
  refine ow_iload_n C dX7_kthOn_0 rfl rfl ?_
  refine ow_istore_n (L' := [.ref p0, .int x1, .int x2, .int x1, Value.null, Value.null]) C dX7_kthOn_1 rfl (by decide) rfl ?_
  refine ow_iconst (v := 0) C dX7_kthOn_2 rfl ?_
  refine ow_istore (L' := [.ref p0, .int x1, .int x2, .int x1, .int 0, Value.null]) C dX7_kthOn_3 (by decide) rfl ?_
  exact Sat.mask hh (mk_y (mk_n (mk_y (mk_y (mk_y (mk_n mk_0))))))
def tr_X7_kthOn : aw_T := fun as h Q => ∃ (p0 : Nat) (x1 : Int32) (x2 : Int32), as = [.ref p0, .int x1, .int x2] ∧ (∀ (K5 : Nat → Int32 → Int32 → Int32 → aw_H → Prop) (K23 : Nat → Int32 → Int32 → Int32 → Int32 → aw_H → Prop), (∀ (p0 : Nat) (x2 : Int32) (x3 : Int32) (x4 : Int32) (h : aw_H), sm_X7_kthOn_5 K5 K23 Q p0 x2 x3 x4 h → K5 p0 x2 x3 x4 h) → (∀ (p0 : Nat) (x2 : Int32) (x3 : Int32) (x4 : Int32) (x5 : Int32) (h : aw_H), sm_X7_kthOn_23 K5 K23 Q p0 x2 x3 x4 x5 h → K23 p0 x2 x3 x4 x5 h) → sm_X7_kthOn_0 K5 K23 Q p0 x1 x2 h)
theorem tq_X7_kthOn {p0 : Nat} {x1 : Int32} {x2 : Int32} {h : aw_H} {Q : aw_R} : tr_X7_kthOn [.ref p0, .int x1, .int x2] h Q ↔ (∀ (K5 : Nat → Int32 → Int32 → Int32 → aw_H → Prop) (K23 : Nat → Int32 → Int32 → Int32 → Int32 → aw_H → Prop), (∀ (p0 : Nat) (x2 : Int32) (x3 : Int32) (x4 : Int32) (h : aw_H), sm_X7_kthOn_5 K5 K23 Q p0 x2 x3 x4 h → K5 p0 x2 x3 x4 h) → (∀ (p0 : Nat) (x2 : Int32) (x3 : Int32) (x4 : Int32) (x5 : Int32) (h : aw_H), sm_X7_kthOn_23 K5 K23 Q p0 x2 x3 x4 x5 h → K23 p0 x2 x3 x4 x5 h) → sm_X7_kthOn_0 K5 K23 Q p0 x1 x2 h) := by
  constructor
  · rintro ⟨_, _, _, as0, hh⟩
    cases as0
    exact hh
  · intro hh
    exact ⟨_, _, _, rfl, hh⟩
theorem ct_X7_kthOn (E : aw_F) : CT E yX7_kthOn cX7_kthOn 6 (some .int) 4 tr_X7_kthOn := by
  refine ct_of (by decide) ?_
  intro X Q as h hE C Z hG
  subst hE
  obtain ⟨p0, x1, x2, rfl, hh⟩ := hG
  refine ⟨[.ref p0, .int x1, .int x2, Value.null, Value.null, Value.null], rfl, Nat.le_of_ble_eq_true rfl, ?_⟩
  exact bl_X7_kthOn_0 C Z p0 x1 x2 h (hh (fun (p0 : Nat) (x2 : Int32) (x3 : Int32) (x4 : Int32) (h : aw_H) => Sat X 5 [.ref p0, Value.null, .int x2, .int x3, .int x4, Value.null] [] h) (fun (p0 : Nat) (x2 : Int32) (x3 : Int32) (x4 : Int32) (x5 : Int32) (h : aw_H) => Sat X 23 [.ref p0, Value.null, .int x2, .int x3, .int x4, .int x5] [] h) (fun p0 x2 x3 x4 h hh => bl_X7_kthOn_5 C Z p0 x2 x3 x4 h hh) (fun p0 x2 x3 x4 x5 h hh => bl_X7_kthOn_23 C Z p0 x2 x3 x4 x5 h hh))
theorem cv_X7_kthOn (E : aw_F) : CV E yX7_kthOn cX7_kthOn 6 (some .int) 4 2 6 tr_X7_kthOn := ⟨ct_X7_kthOn E, by decide, kw_772, kw_773, kw_527, kw_771, by decide +kernel, _, _, rfl⟩
theorem dX7_way_0 : decode cX7_way 0 = .ok (.aload_n 0, 1) := by decide +kernel
theorem dX7_way_1 : decode cX7_way 1 = .ok (.iload_n 1, 1) := by decide +kernel
theorem dX7_way_2 : decode cX7_way 2 = .ok (.invokevirtual 80, 3) := by decide +kernel
theorem dX7_way_5 : decode cX7_way 5 = .ok (.ifCond .eq 16, 3) := by decide +kernel
theorem dX7_way_8 : decode cX7_way 8 = .ok (.aload_n 0, 1) := by decide +kernel
theorem dX7_way_9 : decode cX7_way 9 = .ok (.iload_n 2, 1) := by decide +kernel
theorem dX7_way_10 : decode cX7_way 10 = .ok (.invokevirtual 80, 3) := by decide +kernel
theorem dX7_way_13 : decode cX7_way 13 = .ok (.ifCond .eq 8, 3) := by decide +kernel
theorem dX7_way_16 : decode cX7_way 16 = .ok (.iload_n 3, 1) := by decide +kernel
theorem dX7_way_17 : decode cX7_way 17 = .ok (.iconst (-1), 1) := by decide +kernel
theorem dX7_way_18 : decode cX7_way 18 = .ok (.if_icmp .ge 5, 3) := by decide +kernel
theorem dX7_way_21 : decode cX7_way 21 = .ok (.iconst (-1), 1) := by decide +kernel
theorem dX7_way_22 : decode cX7_way 22 = .ok (.ireturn, 1) := by decide +kernel
theorem dX7_way_23 : decode cX7_way 23 = .ok (.aload_n 0, 1) := by decide +kernel
theorem dX7_way_24 : decode cX7_way 24 = .ok (.iload_n 2, 1) := by decide +kernel
theorem dX7_way_25 : decode cX7_way 25 = .ok (.invokevirtual 191, 3) := by decide +kernel
theorem dX7_way_28 : decode cX7_way 28 = .ok (.aload_n 0, 1) := by decide +kernel
theorem dX7_way_29 : decode cX7_way 29 = .ok (.getfield 35, 3) := by decide +kernel
theorem dX7_way_32 : decode cX7_way 32 = .ok (.iload_n 1, 1) := by decide +kernel
theorem dX7_way_33 : decode cX7_way 33 = .ok (.iaload, 1) := by decide +kernel
theorem dX7_way_34 : decode cX7_way 34 = .ok (.sipush 9999, 3) := by decide +kernel
theorem dX7_way_37 : decode cX7_way 37 = .ok (.if_icmp .lt 6, 3) := by decide +kernel
theorem dX7_way_40 : decode cX7_way 40 = .ok (.bipush (-4), 2) := by decide +kernel
theorem dX7_way_42 : decode cX7_way 42 = .ok (.ireturn, 1) := by decide +kernel
theorem dX7_way_43 : decode cX7_way 43 = .ok (.iload_n 3, 1) := by decide +kernel
theorem dX7_way_44 : decode cX7_way 44 = .ok (.ifCond .ge 12, 3) := by decide +kernel
theorem dX7_way_47 : decode cX7_way 47 = .ok (.aload_n 0, 1) := by decide +kernel
theorem dX7_way_48 : decode cX7_way 48 = .ok (.getfield 35, 3) := by decide +kernel
theorem dX7_way_51 : decode cX7_way 51 = .ok (.iload_n 1, 1) := by decide +kernel
theorem dX7_way_52 : decode cX7_way 52 = .ok (.iaload, 1) := by decide +kernel
theorem dX7_way_53 : decode cX7_way 53 = .ok (.goto 9, 3) := by decide +kernel
theorem dX7_way_56 : decode cX7_way 56 = .ok (.aload_n 0, 1) := by decide +kernel
theorem dX7_way_57 : decode cX7_way 57 = .ok (.iload_n 1, 1) := by decide +kernel
theorem dX7_way_58 : decode cX7_way 58 = .ok (.iload_n 3, 1) := by decide +kernel
theorem dX7_way_59 : decode cX7_way 59 = .ok (.invokevirtual 194, 3) := by decide +kernel
theorem dX7_way_62 : decode cX7_way 62 = .ok (.ireturn, 1) := by decide +kernel
def sm_X7_way_0  (Q : aw_R) (p0 : Nat) (x1 : Int32) (x2 : Int32) (x3 : Int32) (h : aw_H) : Prop :=
  sv_O h p0 6 (tr_X7_isState [.ref p0, .int x1] h fun r2 h1 => sr_I r2 fun v3 => if v3 = 0 then (Q (some (.int ((-1)))) h1) else (sv_O h1 p0 6 (tr_X7_isState [.ref p0, .int x2] h1 fun r5 h4 => sr_I r5 fun v6 => if v6 = 0 then (Q (some (.int ((-1)))) h4) else (if ((-1)) ≤ x3 then (sv_O h4 p0 6 (tr_X7_layYet [.ref p0, .int x2] h4 fun r8 h7 => sr_V r8 <| sg_R h7 p0 6 14 fun q9 => sa_I h7 q9 x1 fun v10 => if v10 < 9999 then (if 0 ≤ x3 then (sv_O h7 p0 6 (tr_X7_kthOn [.ref p0, .int x1, .int x3] h7 fun r12 h11 => sr_I r12 fun v13 => Q (some (.int v13)) h11)) else (sg_R h7 p0 6 14 fun q14 => sa_I h7 q14 x1 fun v15 => Q (some (.int v15)) h7)) else (Q (some (.int ((-4)))) h7))) else (Q (some (.int ((-1)))) h4)))))
set_option maxRecDepth 100000 in
set_option maxHeartbeats 4000000 in
theorem bl_X7_way_0 {X : aw_X} {Q : aw_R} (C : aw_C X cX7_way RX7 4 5) (Z : aw_Z X cX7_way (some .int) Q) (p0 : Nat) (x1 : Int32) (x2 : Int32) (x3 : Int32) (h : aw_H) (hh : sm_X7_way_0  Q p0 x1 x2 x3 h) : Sat X 0 [.ref p0, .int x1, .int x2, .int x3] [] h := by
  unfold sm_X7_way_0 at hh
  refine ow_aload_n C dX7_way_0 rfl rfl ?_
  refine ow_iload_n C dX7_way_1 rfl rfl ?_
  refine ow_callV C (cv_X7_isState _) (Nat.le_of_ble_eq_true rfl) kw_586 dX7_way_2 (as := [.int x1]) (st := []) rfl rfl (Nat.le_of_ble_eq_true rfl) hh (fun r2 h1 hq => ?_)
  obtain ⟨v3, rfl, hh⟩ := sr_I_e hq
  show Sat X 5 [.ref p0, .int x1, .int x2, .int x3] [.int v3] h1
  refine ow_if_eq (tgt := 21) C dX7_way_5 (by decide) hh (fun hh => ?_) (fun hh => ?_)
  · skip
    refine ow_iconst (v := (-1)) C dX7_way_21 rfl ?_
    exact ow_iret Z dX7_way_22 trivial hh
  · skip
    refine ow_aload_n C dX7_way_8 rfl rfl ?_
    refine ow_iload_n C dX7_way_9 rfl rfl ?_
    refine ow_callV C (cv_X7_isState _) (Nat.le_of_ble_eq_true rfl) kw_586 dX7_way_10 (as := [.int x2]) (st := []) rfl rfl (Nat.le_of_ble_eq_true rfl) hh (fun r5 h4 hq => ?_)
    obtain ⟨v6, rfl, hh⟩ := sr_I_e hq
    show Sat X 13 [.ref p0, .int x1, .int x2, .int x3] [.int v6] h4
    refine ow_if_eq (tgt := 21) C dX7_way_13 (by decide) hh (fun hh => ?_) (fun hh => ?_)
    · skip
      refine ow_iconst (v := (-1)) C dX7_way_21 rfl ?_
      exact ow_iret Z dX7_way_22 trivial hh
    · skip
      refine ow_iload_n C dX7_way_16 rfl rfl ?_
      refine ow_iconst (v := (-1)) C dX7_way_17 rfl ?_
      refine ow_icmp_ge (tgt := 23) C dX7_way_18 (by decide) hh (fun hh => ?_) (fun hh => ?_)
      · skip
        refine ow_aload_n C dX7_way_23 rfl rfl ?_
        refine ow_iload_n C dX7_way_24 rfl rfl ?_
        refine ow_callV C (cv_X7_layYet _) (Nat.le_of_ble_eq_true rfl) kw_774 dX7_way_25 (as := [.int x2]) (st := []) rfl rfl (Nat.le_of_ble_eq_true rfl) hh (fun r8 h7 hq => ?_)
        obtain ⟨rfl, hh⟩ := sr_V_e hq
        show Sat X 28 [.ref p0, .int x1, .int x2, .int x3] [] h7
        refine ow_aload_n C dX7_way_28 rfl rfl ?_
        refine ow_getR (ci := 6) (k := 14) (T := TX7) C rfl igX7 (by decide) kw_767 dX7_way_29 hh (fun q9 hh => ?_)
        refine ow_iload_n C dX7_way_32 rfl rfl ?_
        refine ow_iaload C dX7_way_33 hh (fun v10 hh => ?_)
        refine ow_sipush (v := 9999) C dX7_way_34 rfl ?_
        refine ow_icmp_lt (tgt := 43) C dX7_way_37 (by decide) hh (fun hh => ?_) (fun hh => ?_)
        · skip
          refine ow_iload_n C dX7_way_43 rfl rfl ?_
          refine ow_if_ge (tgt := 56) C dX7_way_44 (by decide) hh (fun hh => ?_) (fun hh => ?_)
          · skip
            refine ow_aload_n C dX7_way_56 rfl rfl ?_
            refine ow_iload_n C dX7_way_57 rfl rfl ?_
            refine ow_iload_n C dX7_way_58 rfl rfl ?_
            refine ow_callV C (cv_X7_kthOn _) (Nat.le_of_ble_eq_true rfl) kw_775 dX7_way_59 (as := [.int x1, .int x3]) (st := []) rfl rfl (Nat.le_of_ble_eq_true rfl) hh (fun r12 h11 hq => ?_)
            obtain ⟨v13, rfl, hh⟩ := sr_I_e hq
            show Sat X 62 [.ref p0, .int x1, .int x2, .int x3] [.int v13] h11
            exact ow_iret Z dX7_way_62 trivial hh
          · skip
            refine ow_aload_n C dX7_way_47 rfl rfl ?_
            refine ow_getR (ci := 6) (k := 14) (T := TX7) C rfl igX7 (by decide) kw_767 dX7_way_48 hh (fun q14 hh => ?_)
            refine ow_iload_n C dX7_way_51 rfl rfl ?_
            refine ow_iaload C dX7_way_52 hh (fun v15 hh => ?_)
            refine ow_goto (tgt := 62) C dX7_way_53 (by decide) ?_
            exact ow_iret Z dX7_way_62 trivial hh
        · skip
          refine ow_bipush (v := (-4)) C dX7_way_40 rfl ?_
          exact ow_iret Z dX7_way_42 trivial hh
      · skip
        refine ow_iconst (v := (-1)) C dX7_way_21 rfl ?_
        exact ow_iret Z dX7_way_22 trivial hh
def tr_X7_way : aw_T := fun as h Q => ∃ (p0 : Nat) (x1 : Int32) (x2 : Int32) (x3 : Int32), as = [.ref p0, .int x1, .int x2, .int x3] ∧ (sm_X7_way_0  Q p0 x1 x2 x3 h)
theorem tq_X7_way {p0 : Nat} {x1 : Int32} {x2 : Int32} {x3 : Int32} {h : aw_H} {Q : aw_R} : tr_X7_way [.ref p0, .int x1, .int x2, .int x3] h Q ↔ (sm_X7_way_0  Q p0 x1 x2 x3 h) := by
  constructor
  · rintro ⟨_, _, _, _, as0, hh⟩
    cases as0
    exact hh
  · intro hh
    exact ⟨_, _, _, _, rfl, hh⟩
theorem ct_X7_way (E : aw_F) : CT E yX7_way cX7_way 4 (some .int) 5 tr_X7_way := by
  refine ct_of (by decide) ?_
  intro X Q as h hE C Z hG
  subst hE
  obtain ⟨p0, x1, x2, x3, rfl, hh⟩ := hG
  refine ⟨[.ref p0, .int x1, .int x2, .int x3], rfl, Nat.le_of_ble_eq_true rfl, ?_⟩
  exact bl_X7_way_0 C Z p0 x1 x2 x3 h hh
theorem cv_X7_way (E : aw_F) : CV E yX7_way cX7_way 4 (some .int) 5 3 6 tr_X7_way := ⟨ct_X7_way E, by decide, kw_777, kw_778, kw_527, kw_776, by decide +kernel, _, _, rfl⟩
theorem dX7_reach_0 : decode cX7_reach 0 = .ok (.aload_n 0, 1) := by decide +kernel
theorem dX7_reach_1 : decode cX7_reach 1 = .ok (.iload_n 1, 1) := by decide +kernel
theorem dX7_reach_2 : decode cX7_reach 2 = .ok (.invokevirtual 80, 3) := by decide +kernel
theorem dX7_reach_5 : decode cX7_reach 5 = .ok (.ifCond .ne 5, 3) := by decide +kernel
theorem dX7_reach_8 : decode cX7_reach 8 = .ok (.iconst (-1), 1) := by decide +kernel
theorem dX7_reach_9 : decode cX7_reach 9 = .ok (.ireturn, 1) := by decide +kernel
theorem dX7_reach_10 : decode cX7_reach 10 = .ok (.aload_n 0, 1) := by decide +kernel
theorem dX7_reach_11 : decode cX7_reach 11 = .ok (.iload_n 1, 1) := by decide +kernel
theorem dX7_reach_12 : decode cX7_reach 12 = .ok (.invokevirtual 191, 3) := by decide +kernel
theorem dX7_reach_15 : decode cX7_reach 15 = .ok (.iconst 0, 1) := by decide +kernel
theorem dX7_reach_16 : decode cX7_reach 16 = .ok (.istore_n 2, 1) := by decide +kernel
theorem dX7_reach_17 : decode cX7_reach 17 = .ok (.iconst 0, 1) := by decide +kernel
theorem dX7_reach_18 : decode cX7_reach 18 = .ok (.istore_n 3, 1) := by decide +kernel
theorem dX7_reach_19 : decode cX7_reach 19 = .ok (.iload_n 3, 1) := by decide +kernel
theorem dX7_reach_20 : decode cX7_reach 20 = .ok (.aload_n 0, 1) := by decide +kernel
theorem dX7_reach_21 : decode cX7_reach 21 = .ok (.invokevirtual 38, 3) := by decide +kernel
theorem dX7_reach_24 : decode cX7_reach 24 = .ok (.if_icmp .ge 29, 3) := by decide +kernel
theorem dX7_reach_27 : decode cX7_reach 27 = .ok (.iload_n 2, 1) := by decide +kernel
theorem dX7_reach_28 : decode cX7_reach 28 = .ok (.aload_n 0, 1) := by decide +kernel
theorem dX7_reach_29 : decode cX7_reach 29 = .ok (.getfield 35, 3) := by decide +kernel
theorem dX7_reach_32 : decode cX7_reach 32 = .ok (.iload_n 3, 1) := by decide +kernel
theorem dX7_reach_33 : decode cX7_reach 33 = .ok (.iaload, 1) := by decide +kernel
theorem dX7_reach_34 : decode cX7_reach 34 = .ok (.sipush 9999, 3) := by decide +kernel
theorem dX7_reach_37 : decode cX7_reach 37 = .ok (.if_icmp .ge 7, 3) := by decide +kernel
theorem dX7_reach_40 : decode cX7_reach 40 = .ok (.iconst 1, 1) := by decide +kernel
theorem dX7_reach_41 : decode cX7_reach 41 = .ok (.goto 4, 3) := by decide +kernel
theorem dX7_reach_44 : decode cX7_reach 44 = .ok (.iconst 0, 1) := by decide +kernel
theorem dX7_reach_45 : decode cX7_reach 45 = .ok (.iadd, 1) := by decide +kernel
theorem dX7_reach_46 : decode cX7_reach 46 = .ok (.istore_n 2, 1) := by decide +kernel
theorem dX7_reach_47 : decode cX7_reach 47 = .ok (.iinc 3 1, 3) := by decide +kernel
theorem dX7_reach_50 : decode cX7_reach 50 = .ok (.goto (-31), 3) := by decide +kernel
theorem dX7_reach_53 : decode cX7_reach 53 = .ok (.iload_n 2, 1) := by decide +kernel
theorem dX7_reach_54 : decode cX7_reach 54 = .ok (.ireturn, 1) := by decide +kernel
def sm_X7_reach_19 (K19 : Nat → Int32 → Int32 → aw_H → Prop) (Q : aw_R) (p0 : Nat) (x2 : Int32) (x3 : Int32) (h : aw_H) : Prop :=
  sv_O h p0 6 (tr_X7_states [.ref p0] h fun r2 h1 => sr_I r2 fun v3 => if v3 ≤ x3 then (Q (some (.int x2)) h1) else (sg_R h1 p0 6 14 fun q4 => sa_I h1 q4 x3 fun v5 => if 9999 ≤ v5 then (K19 p0 (x2 + 0) (x3 + 1) h1) else (K19 p0 (x2 + 1) (x3 + 1) h1)))
set_option maxRecDepth 100000 in
set_option maxHeartbeats 4000000 in
theorem bl_X7_reach_19 {X : aw_X} {Q : aw_R} (C : aw_C X cX7_reach RX7 4 5) (Z : aw_Z X cX7_reach (some .int) Q) (p0 : Nat) (x2 : Int32) (x3 : Int32) (h : aw_H) (hh : sm_X7_reach_19 (fun (p0 : Nat) (x2 : Int32) (x3 : Int32) (h : aw_H) => Sat X 19 [.ref p0, Value.null, .int x2, .int x3] [] h) Q p0 x2 x3 h) : Sat X 19 [.ref p0, Value.null, .int x2, .int x3] [] h := by
  unfold sm_X7_reach_19 at hh
  refine ow_iload_n C dX7_reach_19 rfl rfl ?_
  refine ow_aload_n C dX7_reach_20 rfl rfl ?_
  refine ow_callV C (cv_X7_states _) (Nat.le_of_ble_eq_true rfl) kw_540 dX7_reach_21 (as := []) (st := [.int x3]) rfl rfl (Nat.le_of_ble_eq_true rfl) hh (fun r2 h1 hq => ?_)
  obtain ⟨v3, rfl, hh⟩ := sr_I_e hq
  show Sat X 24 [.ref p0, Value.null, .int x2, .int x3] [.int v3, .int x3] h1
  refine ow_icmp_ge (tgt := 53) C dX7_reach_24 (by decide) hh (fun hh => ?_) (fun hh => ?_)
  · skip
    refine ow_iload_n C dX7_reach_53 rfl rfl ?_
    exact ow_iret Z dX7_reach_54 trivial hh
  · skip
    refine ow_iload_n C dX7_reach_27 rfl rfl ?_
    refine ow_aload_n C dX7_reach_28 rfl rfl ?_
    refine ow_getR (ci := 6) (k := 14) (T := TX7) C rfl igX7 (by decide) kw_767 dX7_reach_29 hh (fun q4 hh => ?_)
    refine ow_iload_n C dX7_reach_32 rfl rfl ?_
    refine ow_iaload C dX7_reach_33 hh (fun v5 hh => ?_)
    refine ow_sipush (v := 9999) C dX7_reach_34 rfl ?_
    refine ow_icmp_ge (tgt := 44) C dX7_reach_37 (by decide) hh (fun hh => ?_) (fun hh => ?_)
    · skip
      refine ow_iconst (v := 0) C dX7_reach_44 rfl ?_
      refine ow_iadd C dX7_reach_45 ?_
      refine ow_istore_n (L' := [.ref p0, Value.null, .int (x2 + 0), .int x3]) C dX7_reach_46 rfl (by decide) rfl ?_
      refine ow_iinc (v := x3 + 1) (L' := [.ref p0, Value.null, .int (x2 + 0), .int (x3 + 1)]) C dX7_reach_47 rfl rfl (by decide) rfl ?_
      refine ow_goto (tgt := 19) C dX7_reach_50 (by decide) ?_
      exact Sat.mask hh (mk_y (mk_n (mk_y (mk_y mk_0))))
    · skip
      refine ow_iconst (v := 1) C dX7_reach_40 rfl ?_
      refine ow_goto (tgt := 45) C dX7_reach_41 (by decide) ?_
      refine ow_iadd C dX7_reach_45 ?_
      refine ow_istore_n (L' := [.ref p0, Value.null, .int (x2 + 1), .int x3]) C dX7_reach_46 rfl (by decide) rfl ?_
      refine ow_iinc (v := x3 + 1) (L' := [.ref p0, Value.null, .int (x2 + 1), .int (x3 + 1)]) C dX7_reach_47 rfl rfl (by decide) rfl ?_
      refine ow_goto (tgt := 19) C dX7_reach_50 (by decide) ?_
      exact Sat.mask hh (mk_y (mk_n (mk_y (mk_y mk_0))))
def sm_X7_reach_0 (K19 : Nat → Int32 → Int32 → aw_H → Prop) (Q : aw_R) (p0 : Nat) (x1 : Int32) (h : aw_H) : Prop :=
  sv_O h p0 6 (tr_X7_isState [.ref p0, .int x1] h fun r2 h1 => sr_I r2 fun v3 => if ¬ v3 = 0 then (sv_O h1 p0 6 (tr_X7_layYet [.ref p0, .int x1] h1 fun r5 h4 => sr_V r5 <| K19 p0 0 0 h4)) else (Q (some (.int ((-1)))) h1))
set_option maxRecDepth 100000 in
set_option maxHeartbeats 4000000 in
theorem bl_X7_reach_0 {X : aw_X} {Q : aw_R} (C : aw_C X cX7_reach RX7 4 5) (Z : aw_Z X cX7_reach (some .int) Q) (p0 : Nat) (x1 : Int32) (h : aw_H) (hh : sm_X7_reach_0 (fun (p0 : Nat) (x2 : Int32) (x3 : Int32) (h : aw_H) => Sat X 19 [.ref p0, Value.null, .int x2, .int x3] [] h) Q p0 x1 h) : Sat X 0 [.ref p0, .int x1, Value.null, Value.null] [] h := by
  unfold sm_X7_reach_0 at hh
  refine ow_aload_n C dX7_reach_0 rfl rfl ?_
  refine ow_iload_n C dX7_reach_1 rfl rfl ?_
  refine ow_callV C (cv_X7_isState _) (Nat.le_of_ble_eq_true rfl) kw_586 dX7_reach_2 (as := [.int x1]) (st := []) rfl rfl (Nat.le_of_ble_eq_true rfl) hh (fun r2 h1 hq => ?_)
  obtain ⟨v3, rfl, hh⟩ := sr_I_e hq
  show Sat X 5 [.ref p0, .int x1, Value.null, Value.null] [.int v3] h1
  refine ow_if_ne (tgt := 10) C dX7_reach_5 (by decide) hh (fun hh => ?_) (fun hh => ?_)
  · skip
    refine ow_aload_n C dX7_reach_10 rfl rfl ?_
    refine ow_iload_n C dX7_reach_11 rfl rfl ?_
    refine ow_callV C (cv_X7_layYet _) (Nat.le_of_ble_eq_true rfl) kw_774 dX7_reach_12 (as := [.int x1]) (st := []) rfl rfl (Nat.le_of_ble_eq_true rfl) hh (fun r5 h4 hq => ?_)
    obtain ⟨rfl, hh⟩ := sr_V_e hq
    show Sat X 15 [.ref p0, .int x1, Value.null, Value.null] [] h4
    refine ow_iconst (v := 0) C dX7_reach_15 rfl ?_
    refine ow_istore_n (L' := [.ref p0, .int x1, .int 0, Value.null]) C dX7_reach_16 rfl (by decide) rfl ?_
    refine ow_iconst (v := 0) C dX7_reach_17 rfl ?_
    refine ow_istore_n (L' := [.ref p0, .int x1, .int 0, .int 0]) C dX7_reach_18 rfl (by decide) rfl ?_
    exact Sat.mask hh (mk_y (mk_n (mk_y (mk_y mk_0))))
  · skip
    refine ow_iconst (v := (-1)) C dX7_reach_8 rfl ?_
    exact ow_iret Z dX7_reach_9 trivial hh
def tr_X7_reach : aw_T := fun as h Q => ∃ (p0 : Nat) (x1 : Int32), as = [.ref p0, .int x1] ∧ (∀ (K19 : Nat → Int32 → Int32 → aw_H → Prop), (∀ (p0 : Nat) (x2 : Int32) (x3 : Int32) (h : aw_H), sm_X7_reach_19 K19 Q p0 x2 x3 h → K19 p0 x2 x3 h) → sm_X7_reach_0 K19 Q p0 x1 h)
theorem tq_X7_reach {p0 : Nat} {x1 : Int32} {h : aw_H} {Q : aw_R} : tr_X7_reach [.ref p0, .int x1] h Q ↔ (∀ (K19 : Nat → Int32 → Int32 → aw_H → Prop), (∀ (p0 : Nat) (x2 : Int32) (x3 : Int32) (h : aw_H), sm_X7_reach_19 K19 Q p0 x2 x3 h → K19 p0 x2 x3 h) → sm_X7_reach_0 K19 Q p0 x1 h) := by
  constructor
  · rintro ⟨_, _, as0, hh⟩
    cases as0
    exact hh
  · intro hh
    exact ⟨_, _, rfl, hh⟩
theorem ct_X7_reach (E : aw_F) : CT E yX7_reach cX7_reach 4 (some .int) 5 tr_X7_reach := by
  refine ct_of (by decide) ?_
  intro X Q as h hE C Z hG
  subst hE
  obtain ⟨p0, x1, rfl, hh⟩ := hG
  refine ⟨[.ref p0, .int x1, Value.null, Value.null], rfl, Nat.le_of_ble_eq_true rfl, ?_⟩
  exact bl_X7_reach_0 C Z p0 x1 h (hh (fun (p0 : Nat) (x2 : Int32) (x3 : Int32) (h : aw_H) => Sat X 19 [.ref p0, Value.null, .int x2, .int x3] [] h) (fun p0 x2 x3 h hh => bl_X7_reach_19 C Z p0 x2 x3 h hh))
theorem cv_X7_reach (E : aw_F) : CV E yX7_reach cX7_reach 4 (some .int) 5 1 6 tr_X7_reach := ⟨ct_X7_reach E, by decide, kw_780, kw_781, kw_527, kw_779, by decide +kernel, _, _, rfl⟩
theorem dX7_shownBy_0 : decode cX7_shownBy 0 = .ok (.iconst 0, 1) := by decide +kernel
theorem dX7_shownBy_1 : decode cX7_shownBy 1 = .ok (.istore_n 2, 1) := by decide +kernel
theorem dX7_shownBy_2 : decode cX7_shownBy 2 = .ok (.iconst 0, 1) := by decide +kernel
theorem dX7_shownBy_3 : decode cX7_shownBy 3 = .ok (.istore_n 3, 1) := by decide +kernel
theorem dX7_shownBy_4 : decode cX7_shownBy 4 = .ok (.iload_n 3, 1) := by decide +kernel
theorem dX7_shownBy_5 : decode cX7_shownBy 5 = .ok (.aload_n 0, 1) := by decide +kernel
theorem dX7_shownBy_6 : decode cX7_shownBy 6 = .ok (.getfield 7, 3) := by decide +kernel
theorem dX7_shownBy_9 : decode cX7_shownBy 9 = .ok (.iconst 1, 1) := by decide +kernel
theorem dX7_shownBy_10 : decode cX7_shownBy 10 = .ok (.iaload, 1) := by decide +kernel
theorem dX7_shownBy_11 : decode cX7_shownBy 11 = .ok (.if_icmp .ge 45, 3) := by decide +kernel
theorem dX7_shownBy_14 : decode cX7_shownBy 14 = .ok (.aload_n 0, 1) := by decide +kernel
theorem dX7_shownBy_15 : decode cX7_shownBy 15 = .ok (.invokevirtual 182, 3) := by decide +kernel
theorem dX7_shownBy_18 : decode cX7_shownBy 18 = .ok (.aload_n 0, 1) := by decide +kernel
theorem dX7_shownBy_19 : decode cX7_shownBy 19 = .ok (.iload_n 3, 1) := by decide +kernel
theorem dX7_shownBy_20 : decode cX7_shownBy 20 = .ok (.invokevirtual 188, 3) := by decide +kernel
theorem dX7_shownBy_23 : decode cX7_shownBy 23 = .ok (.iload_n 2, 1) := by decide +kernel
theorem dX7_shownBy_24 : decode cX7_shownBy 24 = .ok (.aload_n 0, 1) := by decide +kernel
theorem dX7_shownBy_25 : decode cX7_shownBy 25 = .ok (.sipush 1532, 3) := by decide +kernel
theorem dX7_shownBy_28 : decode cX7_shownBy 28 = .ok (.iload_n 1, 1) := by decide +kernel
theorem dX7_shownBy_29 : decode cX7_shownBy 29 = .ok (.invokevirtual 163, 3) := by decide +kernel
theorem dX7_shownBy_32 : decode cX7_shownBy 32 = .ok (.aload_n 0, 1) := by decide +kernel
theorem dX7_shownBy_33 : decode cX7_shownBy 33 = .ok (.getfield 26, 3) := by decide +kernel
theorem dX7_shownBy_36 : decode cX7_shownBy 36 = .ok (.iload_n 1, 1) := by decide +kernel
theorem dX7_shownBy_37 : decode cX7_shownBy 37 = .ok (.iaload, 1) := by decide +kernel
theorem dX7_shownBy_38 : decode cX7_shownBy 38 = .ok (.if_icmp .eq 9, 3) := by decide +kernel
theorem dX7_shownBy_41 : decode cX7_shownBy 41 = .ok (.iconst 1, 1) := by decide +kernel
theorem dX7_shownBy_42 : decode cX7_shownBy 42 = .ok (.iload_n 3, 1) := by decide +kernel
theorem dX7_shownBy_43 : decode cX7_shownBy 43 = .ok (.ishl, 1) := by decide +kernel
theorem dX7_shownBy_44 : decode cX7_shownBy 44 = .ok (.goto 4, 3) := by decide +kernel
theorem dX7_shownBy_47 : decode cX7_shownBy 47 = .ok (.iconst 0, 1) := by decide +kernel
theorem dX7_shownBy_48 : decode cX7_shownBy 48 = .ok (.ior, 1) := by decide +kernel
theorem dX7_shownBy_49 : decode cX7_shownBy 49 = .ok (.istore_n 2, 1) := by decide +kernel
theorem dX7_shownBy_50 : decode cX7_shownBy 50 = .ok (.iinc 3 1, 3) := by decide +kernel
theorem dX7_shownBy_53 : decode cX7_shownBy 53 = .ok (.goto (-49), 3) := by decide +kernel
theorem dX7_shownBy_56 : decode cX7_shownBy 56 = .ok (.iload_n 2, 1) := by decide +kernel
theorem dX7_shownBy_57 : decode cX7_shownBy 57 = .ok (.ireturn, 1) := by decide +kernel
def sm_X7_shownBy_4 (K4 : Nat → Int32 → Int32 → Int32 → aw_H → Prop) (Q : aw_R) (p0 : Nat) (x1 : Int32) (x2 : Int32) (x3 : Int32) (h : aw_H) : Prop :=
  sg_R h p0 6 0 fun q1 => sa_I h q1 1 fun v2 => if v2 ≤ x3 then (Q (some (.int x2)) h) else (sv_O h p0 6 (tr_X7_beginTry [.ref p0] h fun r4 h3 => sr_V r4 <| sv_O h3 p0 6 (tr_X7_killIn [.ref p0, .int x3] h3 fun r6 h5 => sr_V r6 <| sv_O h5 p0 6 (tr_X7_runIn [.ref p0, .int 1532, .int x1] h5 fun r8 h7 => sr_I r8 fun v9 => sg_R h7 p0 6 7 fun q10 => sa_I h7 q10 x1 fun v11 => if v9 = v11 then (K4 p0 x1 (x2 ||| 0) (x3 + 1) h7) else (K4 p0 x1 (x2 ||| ((1 : Int32) <<< (x3 &&& 31))) (x3 + 1) h7)))))
set_option maxRecDepth 100000 in
set_option maxHeartbeats 4000000 in
theorem bl_X7_shownBy_4 {X : aw_X} {Q : aw_R} (C : aw_C X cX7_shownBy RX7 4 5) (Z : aw_Z X cX7_shownBy (some .int) Q) (p0 : Nat) (x1 : Int32) (x2 : Int32) (x3 : Int32) (h : aw_H) (hh : sm_X7_shownBy_4 (fun (p0 : Nat) (x1 : Int32) (x2 : Int32) (x3 : Int32) (h : aw_H) => Sat X 4 [.ref p0, .int x1, .int x2, .int x3] [] h) Q p0 x1 x2 x3 h) : Sat X 4 [.ref p0, .int x1, .int x2, .int x3] [] h := by
  unfold sm_X7_shownBy_4 at hh
  refine ow_iload_n C dX7_shownBy_4 rfl rfl ?_
  refine ow_aload_n C dX7_shownBy_5 rfl rfl ?_
  refine ow_getR (ci := 6) (k := 0) (T := TX7) C rfl igX7 (by decide) kw_533 dX7_shownBy_6 hh (fun q1 hh => ?_)
  refine ow_iconst (v := 1) C dX7_shownBy_9 rfl ?_
  refine ow_iaload C dX7_shownBy_10 hh (fun v2 hh => ?_)
  refine ow_icmp_ge (tgt := 56) C dX7_shownBy_11 (by decide) hh (fun hh => ?_) (fun hh => ?_)
  · skip
    refine ow_iload_n C dX7_shownBy_56 rfl rfl ?_
    exact ow_iret Z dX7_shownBy_57 trivial hh
  · skip
    refine ow_aload_n C dX7_shownBy_14 rfl rfl ?_
    refine ow_callV C (cv_X7_beginTry _) (Nat.le_of_ble_eq_true rfl) kw_752 dX7_shownBy_15 (as := []) (st := []) rfl rfl (Nat.le_of_ble_eq_true rfl) hh (fun r4 h3 hq => ?_)
    obtain ⟨rfl, hh⟩ := sr_V_e hq
    show Sat X 18 [.ref p0, .int x1, .int x2, .int x3] [] h3
    refine ow_aload_n C dX7_shownBy_18 rfl rfl ?_
    refine ow_iload_n C dX7_shownBy_19 rfl rfl ?_
    refine ow_callV C (cv_X7_killIn _) (Nat.le_of_ble_eq_true rfl) kw_760 dX7_shownBy_20 (as := [.int x3]) (st := []) rfl rfl (Nat.le_of_ble_eq_true rfl) hh (fun r6 h5 hq => ?_)
    obtain ⟨rfl, hh⟩ := sr_V_e hq
    show Sat X 23 [.ref p0, .int x1, .int x2, .int x3] [] h5
    refine ow_iload_n C dX7_shownBy_23 rfl rfl ?_
    refine ow_aload_n C dX7_shownBy_24 rfl rfl ?_
    refine ow_sipush (v := 1532) C dX7_shownBy_25 rfl ?_
    refine ow_iload_n C dX7_shownBy_28 rfl rfl ?_
    refine ow_callV C (cv_X7_runIn _) (Nat.le_of_ble_eq_true rfl) kw_707 dX7_shownBy_29 (as := [.int 1532, .int x1]) (st := [.int x2]) rfl rfl (Nat.le_of_ble_eq_true rfl) hh (fun r8 h7 hq => ?_)
    obtain ⟨v9, rfl, hh⟩ := sr_I_e hq
    show Sat X 32 [.ref p0, .int x1, .int x2, .int x3] [.int v9, .int x2] h7
    refine ow_aload_n C dX7_shownBy_32 rfl rfl ?_
    refine ow_getR (ci := 6) (k := 7) (T := TX7) C rfl igX7 (by decide) kw_706 dX7_shownBy_33 hh (fun q10 hh => ?_)
    refine ow_iload_n C dX7_shownBy_36 rfl rfl ?_
    refine ow_iaload C dX7_shownBy_37 hh (fun v11 hh => ?_)
    refine ow_icmp_eq (tgt := 47) C dX7_shownBy_38 (by decide) hh (fun hh => ?_) (fun hh => ?_)
    · skip
      refine ow_iconst (v := 0) C dX7_shownBy_47 rfl ?_
      refine ow_ior C dX7_shownBy_48 ?_
      refine ow_istore_n (L' := [.ref p0, .int x1, .int (x2 ||| 0), .int x3]) C dX7_shownBy_49 rfl (by decide) rfl ?_
      refine ow_iinc (v := x3 + 1) (L' := [.ref p0, .int x1, .int (x2 ||| 0), .int (x3 + 1)]) C dX7_shownBy_50 rfl rfl (by decide) rfl ?_
      refine ow_goto (tgt := 4) C dX7_shownBy_53 (by decide) ?_
      exact Sat.mask hh (mk_y (mk_y (mk_y (mk_y mk_0))))
    · skip
      refine ow_iconst (v := 1) C dX7_shownBy_41 rfl ?_
      refine ow_iload_n C dX7_shownBy_42 rfl rfl ?_
      refine ow_ishl C dX7_shownBy_43 ?_
      refine ow_goto (tgt := 48) C dX7_shownBy_44 (by decide) ?_
      refine ow_ior C dX7_shownBy_48 ?_
      refine ow_istore_n (L' := [.ref p0, .int x1, .int (x2 ||| ((1 : Int32) <<< (x3 &&& 31))), .int x3]) C dX7_shownBy_49 rfl (by decide) rfl ?_
      refine ow_iinc (v := x3 + 1) (L' := [.ref p0, .int x1, .int (x2 ||| ((1 : Int32) <<< (x3 &&& 31))), .int (x3 + 1)]) C dX7_shownBy_50 rfl rfl (by decide) rfl ?_
      refine ow_goto (tgt := 4) C dX7_shownBy_53 (by decide) ?_
      exact Sat.mask hh (mk_y (mk_y (mk_y (mk_y mk_0))))
def sm_X7_shownBy_0 (K4 : Nat → Int32 → Int32 → Int32 → aw_H → Prop) (Q : aw_R) (p0 : Nat) (x1 : Int32) (h : aw_H) : Prop :=
  K4 p0 x1 0 0 h
set_option maxRecDepth 100000 in
set_option maxHeartbeats 4000000 in
theorem bl_X7_shownBy_0 {X : aw_X} {Q : aw_R} (C : aw_C X cX7_shownBy RX7 4 5) (Z : aw_Z X cX7_shownBy (some .int) Q) (p0 : Nat) (x1 : Int32) (h : aw_H) (hh : sm_X7_shownBy_0 (fun (p0 : Nat) (x1 : Int32) (x2 : Int32) (x3 : Int32) (h : aw_H) => Sat X 4 [.ref p0, .int x1, .int x2, .int x3] [] h) Q p0 x1 h) : Sat X 0 [.ref p0, .int x1, Value.null, Value.null] [] h := by
  unfold sm_X7_shownBy_0 at hh
  refine ow_iconst (v := 0) C dX7_shownBy_0 rfl ?_
  refine ow_istore_n (L' := [.ref p0, .int x1, .int 0, Value.null]) C dX7_shownBy_1 rfl (by decide) rfl ?_
  refine ow_iconst (v := 0) C dX7_shownBy_2 rfl ?_
  refine ow_istore_n (L' := [.ref p0, .int x1, .int 0, .int 0]) C dX7_shownBy_3 rfl (by decide) rfl ?_
  exact Sat.mask hh (mk_y (mk_y (mk_y (mk_y mk_0))))
def tr_X7_shownBy : aw_T := fun as h Q => ∃ (p0 : Nat) (x1 : Int32), as = [.ref p0, .int x1] ∧ (∀ (K4 : Nat → Int32 → Int32 → Int32 → aw_H → Prop), (∀ (p0 : Nat) (x1 : Int32) (x2 : Int32) (x3 : Int32) (h : aw_H), sm_X7_shownBy_4 K4 Q p0 x1 x2 x3 h → K4 p0 x1 x2 x3 h) → sm_X7_shownBy_0 K4 Q p0 x1 h)
theorem tq_X7_shownBy {p0 : Nat} {x1 : Int32} {h : aw_H} {Q : aw_R} : tr_X7_shownBy [.ref p0, .int x1] h Q ↔ (∀ (K4 : Nat → Int32 → Int32 → Int32 → aw_H → Prop), (∀ (p0 : Nat) (x1 : Int32) (x2 : Int32) (x3 : Int32) (h : aw_H), sm_X7_shownBy_4 K4 Q p0 x1 x2 x3 h → K4 p0 x1 x2 x3 h) → sm_X7_shownBy_0 K4 Q p0 x1 h) := by
  constructor
  · rintro ⟨_, _, as0, hh⟩
    cases as0
    exact hh
  · intro hh
    exact ⟨_, _, rfl, hh⟩
theorem ct_X7_shownBy (E : aw_F) : CT E yX7_shownBy cX7_shownBy 4 (some .int) 5 tr_X7_shownBy := by
  refine ct_of (by decide) ?_
  intro X Q as h hE C Z hG
  subst hE
  obtain ⟨p0, x1, rfl, hh⟩ := hG
  refine ⟨[.ref p0, .int x1, Value.null, Value.null], rfl, Nat.le_of_ble_eq_true rfl, ?_⟩
  exact bl_X7_shownBy_0 C Z p0 x1 h (hh (fun (p0 : Nat) (x1 : Int32) (x2 : Int32) (x3 : Int32) (h : aw_H) => Sat X 4 [.ref p0, .int x1, .int x2, .int x3] [] h) (fun p0 x1 x2 x3 h hh => bl_X7_shownBy_4 C Z p0 x1 x2 x3 h hh))
theorem cv_X7_shownBy (E : aw_F) : CV E yX7_shownBy cX7_shownBy 4 (some .int) 5 1 6 tr_X7_shownBy := ⟨ct_X7_shownBy E, by decide, kw_783, kw_784, kw_527, kw_782, by decide +kernel, _, _, rfl⟩
theorem dX7_shows_0 : decode cX7_shows 0 = .ok (.aload_n 0, 1) := by decide +kernel
theorem dX7_shows_1 : decode cX7_shows 1 = .ok (.iload_n 1, 1) := by decide +kernel
theorem dX7_shows_2 : decode cX7_shows 2 = .ok (.invokevirtual 80, 3) := by decide +kernel
theorem dX7_shows_5 : decode cX7_shows 5 = .ok (.ifCond .ne 5, 3) := by decide +kernel
theorem dX7_shows_8 : decode cX7_shows 8 = .ok (.iconst (-1), 1) := by decide +kernel
theorem dX7_shows_9 : decode cX7_shows 9 = .ok (.ireturn, 1) := by decide +kernel
theorem dX7_shows_10 : decode cX7_shows 10 = .ok (.aload_n 0, 1) := by decide +kernel
theorem dX7_shows_11 : decode cX7_shows 11 = .ok (.invokevirtual 167, 3) := by decide +kernel
theorem dX7_shows_14 : decode cX7_shows 14 = .ok (.aload_n 0, 1) := by decide +kernel
theorem dX7_shows_15 : decode cX7_shows 15 = .ok (.iload_n 1, 1) := by decide +kernel
theorem dX7_shows_16 : decode cX7_shows 16 = .ok (.invokevirtual 197, 3) := by decide +kernel
theorem dX7_shows_19 : decode cX7_shows 19 = .ok (.ireturn, 1) := by decide +kernel
def sm_X7_shows_0  (Q : aw_R) (p0 : Nat) (x1 : Int32) (h : aw_H) : Prop :=
  sv_O h p0 6 (tr_X7_isState [.ref p0, .int x1] h fun r2 h1 => sr_I r2 fun v3 => if ¬ v3 = 0 then (sv_O h1 p0 6 (tr_X7_layRuns [.ref p0] h1 fun r5 h4 => sr_V r5 <| sv_O h4 p0 6 (tr_X7_shownBy [.ref p0, .int x1] h4 fun r7 h6 => sr_I r7 fun v8 => Q (some (.int v8)) h6))) else (Q (some (.int ((-1)))) h1))
set_option maxRecDepth 100000 in
set_option maxHeartbeats 4000000 in
theorem bl_X7_shows_0 {X : aw_X} {Q : aw_R} (C : aw_C X cX7_shows RX7 2 6) (Z : aw_Z X cX7_shows (some .int) Q) (p0 : Nat) (x1 : Int32) (h : aw_H) (hh : sm_X7_shows_0  Q p0 x1 h) : Sat X 0 [.ref p0, .int x1] [] h := by
  unfold sm_X7_shows_0 at hh
  refine ow_aload_n C dX7_shows_0 rfl rfl ?_
  refine ow_iload_n C dX7_shows_1 rfl rfl ?_
  refine ow_callV C (cv_X7_isState _) (Nat.le_of_ble_eq_true rfl) kw_586 dX7_shows_2 (as := [.int x1]) (st := []) rfl rfl (Nat.le_of_ble_eq_true rfl) hh (fun r2 h1 hq => ?_)
  obtain ⟨v3, rfl, hh⟩ := sr_I_e hq
  show Sat X 5 [.ref p0, .int x1] [.int v3] h1
  refine ow_if_ne (tgt := 10) C dX7_shows_5 (by decide) hh (fun hh => ?_) (fun hh => ?_)
  · skip
    refine ow_aload_n C dX7_shows_10 rfl rfl ?_
    refine ow_callV C (cv_X7_layRuns _) (Nat.le_of_ble_eq_true rfl) kw_718 dX7_shows_11 (as := []) (st := []) rfl rfl (Nat.le_of_ble_eq_true rfl) hh (fun r5 h4 hq => ?_)
    obtain ⟨rfl, hh⟩ := sr_V_e hq
    show Sat X 14 [.ref p0, .int x1] [] h4
    refine ow_aload_n C dX7_shows_14 rfl rfl ?_
    refine ow_iload_n C dX7_shows_15 rfl rfl ?_
    refine ow_callV C (cv_X7_shownBy _) (Nat.le_of_ble_eq_true rfl) kw_785 dX7_shows_16 (as := [.int x1]) (st := []) rfl rfl (Nat.le_of_ble_eq_true rfl) hh (fun r7 h6 hq => ?_)
    obtain ⟨v8, rfl, hh⟩ := sr_I_e hq
    show Sat X 19 [.ref p0, .int x1] [.int v8] h6
    exact ow_iret Z dX7_shows_19 trivial hh
  · skip
    refine ow_iconst (v := (-1)) C dX7_shows_8 rfl ?_
    exact ow_iret Z dX7_shows_9 trivial hh
def tr_X7_shows : aw_T := fun as h Q => ∃ (p0 : Nat) (x1 : Int32), as = [.ref p0, .int x1] ∧ (sm_X7_shows_0  Q p0 x1 h)
theorem tq_X7_shows {p0 : Nat} {x1 : Int32} {h : aw_H} {Q : aw_R} : tr_X7_shows [.ref p0, .int x1] h Q ↔ (sm_X7_shows_0  Q p0 x1 h) := by
  constructor
  · rintro ⟨_, _, as0, hh⟩
    cases as0
    exact hh
  · intro hh
    exact ⟨_, _, rfl, hh⟩
theorem ct_X7_shows (E : aw_F) : CT E yX7_shows cX7_shows 2 (some .int) 6 tr_X7_shows := by
  refine ct_of (by decide) ?_
  intro X Q as h hE C Z hG
  subst hE
  obtain ⟨p0, x1, rfl, hh⟩ := hG
  refine ⟨[.ref p0, .int x1], rfl, Nat.le_of_ble_eq_true rfl, ?_⟩
  exact bl_X7_shows_0 C Z p0 x1 h hh
theorem cv_X7_shows (E : aw_F) : CV E yX7_shows cX7_shows 2 (some .int) 6 1 6 tr_X7_shows := ⟨ct_X7_shows E, by decide, kw_787, kw_788, kw_527, kw_786, by decide +kernel, _, _, rfl⟩
theorem dX7_telling_0 : decode cX7_telling 0 = .ok (.iload_n 1, 1) := by decide +kernel
theorem dX7_telling_1 : decode cX7_telling 1 = .ok (.iconst 0, 1) := by decide +kernel
theorem dX7_telling_2 : decode cX7_telling 2 = .ok (.iconst 1, 1) := by decide +kernel
theorem dX7_telling_3 : decode cX7_telling 3 = .ok (.invokestatic 42, 3) := by decide +kernel
theorem dX7_telling_6 : decode cX7_telling 6 = .ok (.ifCond .ne 5, 3) := by decide +kernel
theorem dX7_telling_9 : decode cX7_telling 9 = .ok (.iconst (-1), 1) := by decide +kernel
theorem dX7_telling_10 : decode cX7_telling 10 = .ok (.ireturn, 1) := by decide +kernel
theorem dX7_telling_11 : decode cX7_telling 11 = .ok (.aload_n 0, 1) := by decide +kernel
theorem dX7_telling_12 : decode cX7_telling 12 = .ok (.invokevirtual 167, 3) := by decide +kernel
theorem dX7_telling_15 : decode cX7_telling 15 = .ok (.iconst 0, 1) := by decide +kernel
theorem dX7_telling_16 : decode cX7_telling 16 = .ok (.istore_n 2, 1) := by decide +kernel
theorem dX7_telling_17 : decode cX7_telling 17 = .ok (.iconst (-1), 1) := by decide +kernel
theorem dX7_telling_18 : decode cX7_telling 18 = .ok (.istore_n 3, 1) := by decide +kernel
theorem dX7_telling_19 : decode cX7_telling 19 = .ok (.iconst 0, 1) := by decide +kernel
theorem dX7_telling_20 : decode cX7_telling 20 = .ok (.istore 4, 2) := by decide +kernel
theorem dX7_telling_22 : decode cX7_telling 22 = .ok (.iload 4, 2) := by decide +kernel
theorem dX7_telling_24 : decode cX7_telling 24 = .ok (.aload_n 0, 1) := by decide +kernel
theorem dX7_telling_25 : decode cX7_telling 25 = .ok (.invokevirtual 38, 3) := by decide +kernel
theorem dX7_telling_28 : decode cX7_telling 28 = .ok (.if_icmp .ge 46, 3) := by decide +kernel
theorem dX7_telling_31 : decode cX7_telling 31 = .ok (.aload_n 0, 1) := by decide +kernel
theorem dX7_telling_32 : decode cX7_telling 32 = .ok (.iload 4, 2) := by decide +kernel
theorem dX7_telling_34 : decode cX7_telling 34 = .ok (.invokevirtual 197, 3) := by decide +kernel
theorem dX7_telling_37 : decode cX7_telling 37 = .ok (.invokestatic 137, 3) := by decide +kernel
theorem dX7_telling_40 : decode cX7_telling 40 = .ok (.istore 5, 2) := by decide +kernel
theorem dX7_telling_42 : decode cX7_telling 42 = .ok (.iload 5, 2) := by decide +kernel
theorem dX7_telling_44 : decode cX7_telling 44 = .ok (.iload_n 3, 1) := by decide +kernel
theorem dX7_telling_45 : decode cX7_telling 45 = .ok (.if_icmp .le 8, 3) := by decide +kernel
theorem dX7_telling_48 : decode cX7_telling 48 = .ok (.iload 4, 2) := by decide +kernel
theorem dX7_telling_50 : decode cX7_telling 50 = .ok (.goto 4, 3) := by decide +kernel
theorem dX7_telling_53 : decode cX7_telling 53 = .ok (.iload_n 2, 1) := by decide +kernel
theorem dX7_telling_54 : decode cX7_telling 54 = .ok (.istore_n 2, 1) := by decide +kernel
theorem dX7_telling_55 : decode cX7_telling 55 = .ok (.iload 5, 2) := by decide +kernel
theorem dX7_telling_57 : decode cX7_telling 57 = .ok (.iload_n 3, 1) := by decide +kernel
theorem dX7_telling_58 : decode cX7_telling 58 = .ok (.if_icmp .le 8, 3) := by decide +kernel
theorem dX7_telling_61 : decode cX7_telling 61 = .ok (.iload 5, 2) := by decide +kernel
theorem dX7_telling_63 : decode cX7_telling 63 = .ok (.goto 4, 3) := by decide +kernel
theorem dX7_telling_66 : decode cX7_telling 66 = .ok (.iload_n 3, 1) := by decide +kernel
theorem dX7_telling_67 : decode cX7_telling 67 = .ok (.istore_n 3, 1) := by decide +kernel
theorem dX7_telling_68 : decode cX7_telling 68 = .ok (.iinc 4 1, 3) := by decide +kernel
theorem dX7_telling_71 : decode cX7_telling 71 = .ok (.goto (-49), 3) := by decide +kernel
theorem dX7_telling_74 : decode cX7_telling 74 = .ok (.iload_n 1, 1) := by decide +kernel
theorem dX7_telling_75 : decode cX7_telling 75 = .ok (.ifCond .ne 7, 3) := by decide +kernel
theorem dX7_telling_78 : decode cX7_telling 78 = .ok (.iload_n 2, 1) := by decide +kernel
theorem dX7_telling_79 : decode cX7_telling 79 = .ok (.goto 4, 3) := by decide +kernel
theorem dX7_telling_82 : decode cX7_telling 82 = .ok (.iload_n 3, 1) := by decide +kernel
theorem dX7_telling_83 : decode cX7_telling 83 = .ok (.ireturn, 1) := by decide +kernel
def sm_X7_telling_22 (K22 : Nat → Int32 → Int32 → Int32 → Int32 → aw_H → Prop) (Q : aw_R) (p0 : Nat) (x1 : Int32) (x2 : Int32) (x3 : Int32) (x4 : Int32) (h : aw_H) : Prop :=
  sv_O h p0 6 (tr_X7_states [.ref p0] h fun r2 h1 => sr_I r2 fun v3 => if v3 ≤ x4 then (if ¬ x1 = 0 then (Q (some (.int x3)) h1) else (Q (some (.int x2)) h1)) else (sv_O h1 p0 6 (tr_X7_shownBy [.ref p0, .int x4] h1 fun r5 h4 => sr_I r5 fun v6 => tr_X7_bits [.int v6] h4 fun r8 h7 => sr_I r8 fun v9 => if v9 ≤ x3 then (if v9 ≤ x3 then (K22 p0 x1 x2 x3 (x4 + 1) h7) else (K22 p0 x1 x2 v9 (x4 + 1) h7)) else (if v9 ≤ x3 then (K22 p0 x1 x4 x3 (x4 + 1) h7) else (K22 p0 x1 x4 v9 (x4 + 1) h7)))))
set_option maxRecDepth 100000 in
set_option maxHeartbeats 4000000 in
theorem bl_X7_telling_22 {X : aw_X} {Q : aw_R} (C : aw_C X cX7_telling RX7 6 6) (Z : aw_Z X cX7_telling (some .int) Q) (p0 : Nat) (x1 : Int32) (x2 : Int32) (x3 : Int32) (x4 : Int32) (h : aw_H) (hh : sm_X7_telling_22 (fun (p0 : Nat) (x1 : Int32) (x2 : Int32) (x3 : Int32) (x4 : Int32) (h : aw_H) => Sat X 22 [.ref p0, .int x1, .int x2, .int x3, .int x4, Value.null] [] h) Q p0 x1 x2 x3 x4 h) : Sat X 22 [.ref p0, .int x1, .int x2, .int x3, .int x4, Value.null] [] h := by
  unfold sm_X7_telling_22 at hh
  refine ow_iload C dX7_telling_22 rfl ?_
  refine ow_aload_n C dX7_telling_24 rfl rfl ?_
  refine ow_callV C (cv_X7_states _) (Nat.le_of_ble_eq_true rfl) kw_540 dX7_telling_25 (as := []) (st := [.int x4]) rfl rfl (Nat.le_of_ble_eq_true rfl) hh (fun r2 h1 hq => ?_)
  obtain ⟨v3, rfl, hh⟩ := sr_I_e hq
  show Sat X 28 [.ref p0, .int x1, .int x2, .int x3, .int x4, Value.null] [.int v3, .int x4] h1
  refine ow_icmp_ge (tgt := 74) C dX7_telling_28 (by decide) hh (fun hh => ?_) (fun hh => ?_)
  · skip
    refine ow_iload_n C dX7_telling_74 rfl rfl ?_
    refine ow_if_ne (tgt := 82) C dX7_telling_75 (by decide) hh (fun hh => ?_) (fun hh => ?_)
    · skip
      refine ow_iload_n C dX7_telling_82 rfl rfl ?_
      exact ow_iret Z dX7_telling_83 trivial hh
    · skip
      refine ow_iload_n C dX7_telling_78 rfl rfl ?_
      refine ow_goto (tgt := 83) C dX7_telling_79 (by decide) ?_
      exact ow_iret Z dX7_telling_83 trivial hh
  · skip
    refine ow_aload_n C dX7_telling_31 rfl rfl ?_
    refine ow_iload C dX7_telling_32 rfl ?_
    refine ow_callV C (cv_X7_shownBy _) (Nat.le_of_ble_eq_true rfl) kw_785 dX7_telling_34 (as := [.int x4]) (st := []) rfl rfl (Nat.le_of_ble_eq_true rfl) hh (fun r5 h4 hq => ?_)
    obtain ⟨v6, rfl, hh⟩ := sr_I_e hq
    show Sat X 37 [.ref p0, .int x1, .int x2, .int x3, .int x4, Value.null] [.int v6] h4
    refine ow_callS C (cs_X7_bits _) (Nat.le_of_ble_eq_true rfl) kw_648 dX7_telling_37 (as := [.int v6]) (st := []) rfl rfl (Nat.le_of_ble_eq_true rfl) hh (fun r8 h7 hq => ?_)
    obtain ⟨v9, rfl, hh⟩ := sr_I_e hq
    show Sat X 40 [.ref p0, .int x1, .int x2, .int x3, .int x4, Value.null] [.int v9] h7
    refine ow_istore (L' := [.ref p0, .int x1, .int x2, .int x3, .int x4, .int v9]) C dX7_telling_40 (by decide) rfl ?_
    refine ow_iload C dX7_telling_42 rfl ?_
    refine ow_iload_n C dX7_telling_44 rfl rfl ?_
    refine ow_icmp_le (tgt := 53) C dX7_telling_45 (by decide) hh (fun hh => ?_) (fun hh => ?_)
    · skip
      refine ow_iload_n C dX7_telling_53 rfl rfl ?_
      refine ow_istore_n (L' := [.ref p0, .int x1, .int x2, .int x3, .int x4, .int v9]) C dX7_telling_54 rfl (by decide) rfl ?_
      refine ow_iload C dX7_telling_55 rfl ?_
      refine ow_iload_n C dX7_telling_57 rfl rfl ?_
      refine ow_icmp_le (tgt := 66) C dX7_telling_58 (by decide) hh (fun hh => ?_) (fun hh => ?_)
      · skip
        refine ow_iload_n C dX7_telling_66 rfl rfl ?_
        refine ow_istore_n (L' := [.ref p0, .int x1, .int x2, .int x3, .int x4, .int v9]) C dX7_telling_67 rfl (by decide) rfl ?_
        refine ow_iinc (v := x4 + 1) (L' := [.ref p0, .int x1, .int x2, .int x3, .int (x4 + 1), .int v9]) C dX7_telling_68 rfl rfl (by decide) rfl ?_
        refine ow_goto (tgt := 22) C dX7_telling_71 (by decide) ?_
        exact Sat.mask hh (mk_y (mk_y (mk_y (mk_y (mk_y (mk_n mk_0))))))
      · skip
        refine ow_iload C dX7_telling_61 rfl ?_
        refine ow_goto (tgt := 67) C dX7_telling_63 (by decide) ?_
        refine ow_istore_n (L' := [.ref p0, .int x1, .int x2, .int v9, .int x4, .int v9]) C dX7_telling_67 rfl (by decide) rfl ?_
        refine ow_iinc (v := x4 + 1) (L' := [.ref p0, .int x1, .int x2, .int v9, .int (x4 + 1), .int v9]) C dX7_telling_68 rfl rfl (by decide) rfl ?_
        refine ow_goto (tgt := 22) C dX7_telling_71 (by decide) ?_
        exact Sat.mask hh (mk_y (mk_y (mk_y (mk_y (mk_y (mk_n mk_0))))))
    · skip
      refine ow_iload C dX7_telling_48 rfl ?_
      refine ow_goto (tgt := 54) C dX7_telling_50 (by decide) ?_
      refine ow_istore_n (L' := [.ref p0, .int x1, .int x4, .int x3, .int x4, .int v9]) C dX7_telling_54 rfl (by decide) rfl ?_
      refine ow_iload C dX7_telling_55 rfl ?_
      refine ow_iload_n C dX7_telling_57 rfl rfl ?_
      refine ow_icmp_le (tgt := 66) C dX7_telling_58 (by decide) hh (fun hh => ?_) (fun hh => ?_)
      · skip
        refine ow_iload_n C dX7_telling_66 rfl rfl ?_
        refine ow_istore_n (L' := [.ref p0, .int x1, .int x4, .int x3, .int x4, .int v9]) C dX7_telling_67 rfl (by decide) rfl ?_
        refine ow_iinc (v := x4 + 1) (L' := [.ref p0, .int x1, .int x4, .int x3, .int (x4 + 1), .int v9]) C dX7_telling_68 rfl rfl (by decide) rfl ?_
        refine ow_goto (tgt := 22) C dX7_telling_71 (by decide) ?_
        exact Sat.mask hh (mk_y (mk_y (mk_y (mk_y (mk_y (mk_n mk_0))))))
      · skip
        refine ow_iload C dX7_telling_61 rfl ?_
        refine ow_goto (tgt := 67) C dX7_telling_63 (by decide) ?_
        refine ow_istore_n (L' := [.ref p0, .int x1, .int x4, .int v9, .int x4, .int v9]) C dX7_telling_67 rfl (by decide) rfl ?_
        refine ow_iinc (v := x4 + 1) (L' := [.ref p0, .int x1, .int x4, .int v9, .int (x4 + 1), .int v9]) C dX7_telling_68 rfl rfl (by decide) rfl ?_
        refine ow_goto (tgt := 22) C dX7_telling_71 (by decide) ?_
        exact Sat.mask hh (mk_y (mk_y (mk_y (mk_y (mk_y (mk_n mk_0))))))
def sm_X7_telling_0 (K22 : Nat → Int32 → Int32 → Int32 → Int32 → aw_H → Prop) (Q : aw_R) (p0 : Nat) (x1 : Int32) (h : aw_H) : Prop :=
  tr_X7_in [.int x1, .int 0, .int 1] h fun r2 h1 => sr_I r2 fun v3 => if ¬ v3 = 0 then (sv_O h1 p0 6 (tr_X7_layRuns [.ref p0] h1 fun r5 h4 => sr_V r5 <| K22 p0 x1 0 ((-1)) 0 h4)) else (Q (some (.int ((-1)))) h1)
set_option maxRecDepth 100000 in
set_option maxHeartbeats 4000000 in
theorem bl_X7_telling_0 {X : aw_X} {Q : aw_R} (C : aw_C X cX7_telling RX7 6 6) (Z : aw_Z X cX7_telling (some .int) Q) (p0 : Nat) (x1 : Int32) (h : aw_H) (hh : sm_X7_telling_0 (fun (p0 : Nat) (x1 : Int32) (x2 : Int32) (x3 : Int32) (x4 : Int32) (h : aw_H) => Sat X 22 [.ref p0, .int x1, .int x2, .int x3, .int x4, Value.null] [] h) Q p0 x1 h) : Sat X 0 [.ref p0, .int x1, Value.null, Value.null, Value.null, Value.null] [] h := by
  unfold sm_X7_telling_0 at hh
  refine ow_iload_n C dX7_telling_0 rfl rfl ?_
  refine ow_iconst (v := 0) C dX7_telling_1 rfl ?_
  refine ow_iconst (v := 1) C dX7_telling_2 rfl ?_
  refine ow_callS C (cs_X7_in _) (Nat.le_of_ble_eq_true rfl) kw_541 dX7_telling_3 (as := [.int x1, .int 0, .int 1]) (st := []) rfl rfl (Nat.le_of_ble_eq_true rfl) hh (fun r2 h1 hq => ?_)
  obtain ⟨v3, rfl, hh⟩ := sr_I_e hq
  show Sat X 6 [.ref p0, .int x1, Value.null, Value.null, Value.null, Value.null] [.int v3] h1
  refine ow_if_ne (tgt := 11) C dX7_telling_6 (by decide) hh (fun hh => ?_) (fun hh => ?_)
  · skip
    refine ow_aload_n C dX7_telling_11 rfl rfl ?_
    refine ow_callV C (cv_X7_layRuns _) (Nat.le_of_ble_eq_true rfl) kw_718 dX7_telling_12 (as := []) (st := []) rfl rfl (Nat.le_of_ble_eq_true rfl) hh (fun r5 h4 hq => ?_)
    obtain ⟨rfl, hh⟩ := sr_V_e hq
    show Sat X 15 [.ref p0, .int x1, Value.null, Value.null, Value.null, Value.null] [] h4
    refine ow_iconst (v := 0) C dX7_telling_15 rfl ?_
    refine ow_istore_n (L' := [.ref p0, .int x1, .int 0, Value.null, Value.null, Value.null]) C dX7_telling_16 rfl (by decide) rfl ?_
    refine ow_iconst (v := (-1)) C dX7_telling_17 rfl ?_
    refine ow_istore_n (L' := [.ref p0, .int x1, .int 0, .int ((-1)), Value.null, Value.null]) C dX7_telling_18 rfl (by decide) rfl ?_
    refine ow_iconst (v := 0) C dX7_telling_19 rfl ?_
    refine ow_istore (L' := [.ref p0, .int x1, .int 0, .int ((-1)), .int 0, Value.null]) C dX7_telling_20 (by decide) rfl ?_
    exact Sat.mask hh (mk_y (mk_y (mk_y (mk_y (mk_y (mk_n mk_0))))))
  · skip
    refine ow_iconst (v := (-1)) C dX7_telling_9 rfl ?_
    exact ow_iret Z dX7_telling_10 trivial hh
def tr_X7_telling : aw_T := fun as h Q => ∃ (p0 : Nat) (x1 : Int32), as = [.ref p0, .int x1] ∧ (∀ (K22 : Nat → Int32 → Int32 → Int32 → Int32 → aw_H → Prop), (∀ (p0 : Nat) (x1 : Int32) (x2 : Int32) (x3 : Int32) (x4 : Int32) (h : aw_H), sm_X7_telling_22 K22 Q p0 x1 x2 x3 x4 h → K22 p0 x1 x2 x3 x4 h) → sm_X7_telling_0 K22 Q p0 x1 h)
theorem tq_X7_telling {p0 : Nat} {x1 : Int32} {h : aw_H} {Q : aw_R} : tr_X7_telling [.ref p0, .int x1] h Q ↔ (∀ (K22 : Nat → Int32 → Int32 → Int32 → Int32 → aw_H → Prop), (∀ (p0 : Nat) (x1 : Int32) (x2 : Int32) (x3 : Int32) (x4 : Int32) (h : aw_H), sm_X7_telling_22 K22 Q p0 x1 x2 x3 x4 h → K22 p0 x1 x2 x3 x4 h) → sm_X7_telling_0 K22 Q p0 x1 h) := by
  constructor
  · rintro ⟨_, _, as0, hh⟩
    cases as0
    exact hh
  · intro hh
    exact ⟨_, _, rfl, hh⟩
theorem ct_X7_telling (E : aw_F) : CT E yX7_telling cX7_telling 6 (some .int) 6 tr_X7_telling := by
  refine ct_of (by decide) ?_
  intro X Q as h hE C Z hG
  subst hE
  obtain ⟨p0, x1, rfl, hh⟩ := hG
  refine ⟨[.ref p0, .int x1, Value.null, Value.null, Value.null, Value.null], rfl, Nat.le_of_ble_eq_true rfl, ?_⟩
  exact bl_X7_telling_0 C Z p0 x1 h (hh (fun (p0 : Nat) (x1 : Int32) (x2 : Int32) (x3 : Int32) (x4 : Int32) (h : aw_H) => Sat X 22 [.ref p0, .int x1, .int x2, .int x3, .int x4, Value.null] [] h) (fun p0 x1 x2 x3 x4 h hh => bl_X7_telling_22 C Z p0 x1 x2 x3 x4 h hh))
theorem cv_X7_telling (E : aw_F) : CV E yX7_telling cX7_telling 6 (some .int) 6 1 6 tr_X7_telling := ⟨ct_X7_telling E, by decide, kw_790, kw_791, kw_527, kw_789, by decide +kernel, _, _, rfl⟩
theorem dX7_likely_0 : decode cX7_likely 0 = .ok (.aload_n 0, 1) := by decide +kernel
theorem dX7_likely_1 : decode cX7_likely 1 = .ok (.iload_n 1, 1) := by decide +kernel
theorem dX7_likely_2 : decode cX7_likely 2 = .ok (.invokevirtual 50, 3) := by decide +kernel
theorem dX7_likely_5 : decode cX7_likely 5 = .ok (.ifCond .eq 22, 3) := by decide +kernel
theorem dX7_likely_8 : decode cX7_likely 8 = .ok (.iload_n 2, 1) := by decide +kernel
theorem dX7_likely_9 : decode cX7_likely 9 = .ok (.iconst 0, 1) := by decide +kernel
theorem dX7_likely_10 : decode cX7_likely 10 = .ok (.bipush 10, 2) := by decide +kernel
theorem dX7_likely_12 : decode cX7_likely 12 = .ok (.invokestatic 42, 3) := by decide +kernel
theorem dX7_likely_15 : decode cX7_likely 15 = .ok (.ifCond .eq 12, 3) := by decide +kernel
theorem dX7_likely_18 : decode cX7_likely 18 = .ok (.iload_n 3, 1) := by decide +kernel
theorem dX7_likely_19 : decode cX7_likely 19 = .ok (.iconst 0, 1) := by decide +kernel
theorem dX7_likely_20 : decode cX7_likely 20 = .ok (.iconst 1, 1) := by decide +kernel
theorem dX7_likely_21 : decode cX7_likely 21 = .ok (.invokestatic 42, 3) := by decide +kernel
theorem dX7_likely_24 : decode cX7_likely 24 = .ok (.ifCond .ne 5, 3) := by decide +kernel
theorem dX7_likely_27 : decode cX7_likely 27 = .ok (.iconst (-1), 1) := by decide +kernel
theorem dX7_likely_28 : decode cX7_likely 28 = .ok (.ireturn, 1) := by decide +kernel
theorem dX7_likely_29 : decode cX7_likely 29 = .ok (.aload_n 0, 1) := by decide +kernel
theorem dX7_likely_30 : decode cX7_likely 30 = .ok (.invokevirtual 167, 3) := by decide +kernel
theorem dX7_likely_33 : decode cX7_likely 33 = .ok (.iconst 0, 1) := by decide +kernel
theorem dX7_likely_34 : decode cX7_likely 34 = .ok (.istore 4, 2) := by decide +kernel
theorem dX7_likely_36 : decode cX7_likely 36 = .ok (.iconst 1, 1) := by decide +kernel
theorem dX7_likely_37 : decode cX7_likely 37 = .ok (.istore 5, 2) := by decide +kernel
theorem dX7_likely_39 : decode cX7_likely 39 = .ok (.iconst 0, 1) := by decide +kernel
theorem dX7_likely_40 : decode cX7_likely 40 = .ok (.istore 6, 2) := by decide +kernel
theorem dX7_likely_42 : decode cX7_likely 42 = .ok (.iload 6, 2) := by decide +kernel
theorem dX7_likely_44 : decode cX7_likely 44 = .ok (.aload_n 0, 1) := by decide +kernel
theorem dX7_likely_45 : decode cX7_likely 45 = .ok (.getfield 7, 3) := by decide +kernel
theorem dX7_likely_48 : decode cX7_likely 48 = .ok (.iconst 0, 1) := by decide +kernel
theorem dX7_likely_49 : decode cX7_likely 49 = .ok (.iaload, 1) := by decide +kernel
theorem dX7_likely_50 : decode cX7_likely 50 = .ok (.if_icmp .ge 16, 3) := by decide +kernel
theorem dX7_likely_53 : decode cX7_likely 53 = .ok (.iload 5, 2) := by decide +kernel
theorem dX7_likely_55 : decode cX7_likely 55 = .ok (.bipush 10, 2) := by decide +kernel
theorem dX7_likely_57 : decode cX7_likely 57 = .ok (.imul, 1) := by decide +kernel
theorem dX7_likely_58 : decode cX7_likely 58 = .ok (.istore 5, 2) := by decide +kernel
theorem dX7_likely_60 : decode cX7_likely 60 = .ok (.iinc 6 1, 3) := by decide +kernel
theorem dX7_likely_63 : decode cX7_likely 63 = .ok (.goto (-21), 3) := by decide +kernel
theorem dX7_likely_66 : decode cX7_likely 66 = .ok (.iconst 0, 1) := by decide +kernel
theorem dX7_likely_67 : decode cX7_likely 67 = .ok (.istore 6, 2) := by decide +kernel
theorem dX7_likely_69 : decode cX7_likely 69 = .ok (.iload 6, 2) := by decide +kernel
theorem dX7_likely_71 : decode cX7_likely 71 = .ok (.aload_n 0, 1) := by decide +kernel
theorem dX7_likely_72 : decode cX7_likely 72 = .ok (.invokevirtual 38, 3) := by decide +kernel
theorem dX7_likely_75 : decode cX7_likely 75 = .ok (.if_icmp .ge 80, 3) := by decide +kernel
theorem dX7_likely_78 : decode cX7_likely 78 = .ok (.aload_n 0, 1) := by decide +kernel
theorem dX7_likely_79 : decode cX7_likely 79 = .ok (.getfield 26, 3) := by decide +kernel
theorem dX7_likely_82 : decode cX7_likely 82 = .ok (.iload 6, 2) := by decide +kernel
theorem dX7_likely_84 : decode cX7_likely 84 = .ok (.iaload, 1) := by decide +kernel
theorem dX7_likely_85 : decode cX7_likely 85 = .ok (.iload_n 1, 1) := by decide +kernel
theorem dX7_likely_86 : decode cX7_likely 86 = .ok (.invokestatic 69, 3) := by decide +kernel
theorem dX7_likely_89 : decode cX7_likely 89 = .ok (.ifCond .eq 7, 3) := by decide +kernel
theorem dX7_likely_92 : decode cX7_likely 92 = .ok (.iconst 1, 1) := by decide +kernel
theorem dX7_likely_93 : decode cX7_likely 93 = .ok (.goto 4, 3) := by decide +kernel
theorem dX7_likely_96 : decode cX7_likely 96 = .ok (.iconst 0, 1) := by decide +kernel
theorem dX7_likely_97 : decode cX7_likely 97 = .ok (.istore 7, 2) := by decide +kernel
theorem dX7_likely_99 : decode cX7_likely 99 = .ok (.iconst 0, 1) := by decide +kernel
theorem dX7_likely_100 : decode cX7_likely 100 = .ok (.istore 8, 2) := by decide +kernel
theorem dX7_likely_102 : decode cX7_likely 102 = .ok (.iload 8, 2) := by decide +kernel
theorem dX7_likely_104 : decode cX7_likely 104 = .ok (.aload_n 0, 1) := by decide +kernel
theorem dX7_likely_105 : decode cX7_likely 105 = .ok (.getfield 7, 3) := by decide +kernel
theorem dX7_likely_108 : decode cX7_likely 108 = .ok (.iconst 0, 1) := by decide +kernel
theorem dX7_likely_109 : decode cX7_likely 109 = .ok (.iaload, 1) := by decide +kernel
theorem dX7_likely_110 : decode cX7_likely 110 = .ok (.if_icmp .ge 32, 3) := by decide +kernel
theorem dX7_likely_113 : decode cX7_likely 113 = .ok (.iload 7, 2) := by decide +kernel
theorem dX7_likely_115 : decode cX7_likely 115 = .ok (.iload 6, 2) := by decide +kernel
theorem dX7_likely_117 : decode cX7_likely 117 = .ok (.iload 8, 2) := by decide +kernel
theorem dX7_likely_119 : decode cX7_likely 119 = .ok (.invokestatic 69, 3) := by decide +kernel
theorem dX7_likely_122 : decode cX7_likely 122 = .ok (.ifCond .eq 7, 3) := by decide +kernel
theorem dX7_likely_125 : decode cX7_likely 125 = .ok (.iload_n 2, 1) := by decide +kernel
theorem dX7_likely_126 : decode cX7_likely 126 = .ok (.goto 7, 3) := by decide +kernel
theorem dX7_likely_129 : decode cX7_likely 129 = .ok (.bipush 10, 2) := by decide +kernel
theorem dX7_likely_131 : decode cX7_likely 131 = .ok (.iload_n 2, 1) := by decide +kernel
theorem dX7_likely_132 : decode cX7_likely 132 = .ok (.isub, 1) := by decide +kernel
theorem dX7_likely_133 : decode cX7_likely 133 = .ok (.imul, 1) := by decide +kernel
theorem dX7_likely_134 : decode cX7_likely 134 = .ok (.istore 7, 2) := by decide +kernel
theorem dX7_likely_136 : decode cX7_likely 136 = .ok (.iinc 8 1, 3) := by decide +kernel
theorem dX7_likely_139 : decode cX7_likely 139 = .ok (.goto (-37), 3) := by decide +kernel
theorem dX7_likely_142 : decode cX7_likely 142 = .ok (.iload 4, 2) := by decide +kernel
theorem dX7_likely_144 : decode cX7_likely 144 = .ok (.iload 7, 2) := by decide +kernel
theorem dX7_likely_146 : decode cX7_likely 146 = .ok (.iadd, 1) := by decide +kernel
theorem dX7_likely_147 : decode cX7_likely 147 = .ok (.istore 4, 2) := by decide +kernel
theorem dX7_likely_149 : decode cX7_likely 149 = .ok (.iinc 6 1, 3) := by decide +kernel
theorem dX7_likely_152 : decode cX7_likely 152 = .ok (.goto (-83), 3) := by decide +kernel
theorem dX7_likely_155 : decode cX7_likely 155 = .ok (.iload 4, 2) := by decide +kernel
theorem dX7_likely_157 : decode cX7_likely 157 = .ok (.iload 5, 2) := by decide +kernel
theorem dX7_likely_159 : decode cX7_likely 159 = .ok (.invokestatic 179, 3) := by decide +kernel
theorem dX7_likely_162 : decode cX7_likely 162 = .ok (.istore 6, 2) := by decide +kernel
theorem dX7_likely_164 : decode cX7_likely 164 = .ok (.iload_n 3, 1) := by decide +kernel
theorem dX7_likely_165 : decode cX7_likely 165 = .ok (.ifCond .ne 11, 3) := by decide +kernel
theorem dX7_likely_168 : decode cX7_likely 168 = .ok (.iload 4, 2) := by decide +kernel
theorem dX7_likely_170 : decode cX7_likely 170 = .ok (.iload 6, 2) := by decide +kernel
theorem dX7_likely_172 : decode cX7_likely 172 = .ok (.idiv, 1) := by decide +kernel
theorem dX7_likely_173 : decode cX7_likely 173 = .ok (.goto 8, 3) := by decide +kernel
theorem dX7_likely_176 : decode cX7_likely 176 = .ok (.iload 5, 2) := by decide +kernel
theorem dX7_likely_178 : decode cX7_likely 178 = .ok (.iload 6, 2) := by decide +kernel
theorem dX7_likely_180 : decode cX7_likely 180 = .ok (.idiv, 1) := by decide +kernel
theorem dX7_likely_181 : decode cX7_likely 181 = .ok (.ireturn, 1) := by decide +kernel
def sm_X7_likely_102 (K42 : Nat → Int32 → Int32 → Int32 → Int32 → Int32 → Int32 → aw_H → Prop) (K69 : Nat → Int32 → Int32 → Int32 → Int32 → Int32 → Int32 → aw_H → Prop) (K102 : Nat → Int32 → Int32 → Int32 → Int32 → Int32 → Int32 → Int32 → Int32 → aw_H → Prop) (Q : aw_R) (p0 : Nat) (x1 : Int32) (x2 : Int32) (x3 : Int32) (x4 : Int32) (x5 : Int32) (x6 : Int32) (x7 : Int32) (x8 : Int32) (h : aw_H) : Prop :=
  sg_R h p0 6 0 fun q1 => sa_I h q1 0 fun v2 => if v2 ≤ x8 then (K69 p0 x1 x2 x3 (x4 + x7) x5 (x6 + 1) h) else (tr_X7_has [.int x6, .int x8] h fun r4 h3 => sr_I r4 fun v5 => if v5 = 0 then (K102 p0 x1 x2 x3 x4 x5 x6 (x7 * (10 - x2)) (x8 + 1) h3) else (K102 p0 x1 x2 x3 x4 x5 x6 (x7 * x2) (x8 + 1) h3))
set_option maxRecDepth 100000 in
set_option maxHeartbeats 4000000 in
theorem bl_X7_likely_102 {X : aw_X} {Q : aw_R} (C : aw_C X cX7_likely RX7 9 6) (Z : aw_Z X cX7_likely (some .int) Q) (p0 : Nat) (x1 : Int32) (x2 : Int32) (x3 : Int32) (x4 : Int32) (x5 : Int32) (x6 : Int32) (x7 : Int32) (x8 : Int32) (h : aw_H) (hh : sm_X7_likely_102 (fun (p0 : Nat) (x1 : Int32) (x2 : Int32) (x3 : Int32) (x4 : Int32) (x5 : Int32) (x6 : Int32) (h : aw_H) => Sat X 42 [.ref p0, .int x1, .int x2, .int x3, .int x4, .int x5, .int x6, Value.null, Value.null] [] h) (fun (p0 : Nat) (x1 : Int32) (x2 : Int32) (x3 : Int32) (x4 : Int32) (x5 : Int32) (x6 : Int32) (h : aw_H) => Sat X 69 [.ref p0, .int x1, .int x2, .int x3, .int x4, .int x5, .int x6, Value.null, Value.null] [] h) (fun (p0 : Nat) (x1 : Int32) (x2 : Int32) (x3 : Int32) (x4 : Int32) (x5 : Int32) (x6 : Int32) (x7 : Int32) (x8 : Int32) (h : aw_H) => Sat X 102 [.ref p0, .int x1, .int x2, .int x3, .int x4, .int x5, .int x6, .int x7, .int x8] [] h) Q p0 x1 x2 x3 x4 x5 x6 x7 x8 h) : Sat X 102 [.ref p0, .int x1, .int x2, .int x3, .int x4, .int x5, .int x6, .int x7, .int x8] [] h := by
  unfold sm_X7_likely_102 at hh
  refine ow_iload C dX7_likely_102 rfl ?_
  refine ow_aload_n C dX7_likely_104 rfl rfl ?_
  refine ow_getR (ci := 6) (k := 0) (T := TX7) C rfl igX7 (by decide) kw_533 dX7_likely_105 hh (fun q1 hh => ?_)
  refine ow_iconst (v := 0) C dX7_likely_108 rfl ?_
  refine ow_iaload C dX7_likely_109 hh (fun v2 hh => ?_)
  refine ow_icmp_ge (tgt := 142) C dX7_likely_110 (by decide) hh (fun hh => ?_) (fun hh => ?_)
  · skip
    refine ow_iload C dX7_likely_142 rfl ?_
    refine ow_iload C dX7_likely_144 rfl ?_
    refine ow_iadd C dX7_likely_146 ?_
    refine ow_istore (L' := [.ref p0, .int x1, .int x2, .int x3, .int (x4 + x7), .int x5, .int x6, .int x7, .int x8]) C dX7_likely_147 (by decide) rfl ?_
    refine ow_iinc (v := x6 + 1) (L' := [.ref p0, .int x1, .int x2, .int x3, .int (x4 + x7), .int x5, .int (x6 + 1), .int x7, .int x8]) C dX7_likely_149 rfl rfl (by decide) rfl ?_
    refine ow_goto (tgt := 69) C dX7_likely_152 (by decide) ?_
    exact Sat.mask hh (mk_y (mk_y (mk_y (mk_y (mk_y (mk_y (mk_y (mk_n (mk_n mk_0)))))))))
  · skip
    refine ow_iload C dX7_likely_113 rfl ?_
    refine ow_iload C dX7_likely_115 rfl ?_
    refine ow_iload C dX7_likely_117 rfl ?_
    refine ow_callS C (cs_X7_has _) (Nat.le_of_ble_eq_true rfl) kw_576 dX7_likely_119 (as := [.int x6, .int x8]) (st := [.int x7]) rfl rfl (Nat.le_of_ble_eq_true rfl) hh (fun r4 h3 hq => ?_)
    obtain ⟨v5, rfl, hh⟩ := sr_I_e hq
    show Sat X 122 [.ref p0, .int x1, .int x2, .int x3, .int x4, .int x5, .int x6, .int x7, .int x8] [.int v5, .int x7] h3
    refine ow_if_eq (tgt := 129) C dX7_likely_122 (by decide) hh (fun hh => ?_) (fun hh => ?_)
    · skip
      refine ow_bipush (v := 10) C dX7_likely_129 rfl ?_
      refine ow_iload_n C dX7_likely_131 rfl rfl ?_
      refine ow_isub C dX7_likely_132 ?_
      refine ow_imul C dX7_likely_133 ?_
      refine ow_istore (L' := [.ref p0, .int x1, .int x2, .int x3, .int x4, .int x5, .int x6, .int (x7 * (10 - x2)), .int x8]) C dX7_likely_134 (by decide) rfl ?_
      refine ow_iinc (v := x8 + 1) (L' := [.ref p0, .int x1, .int x2, .int x3, .int x4, .int x5, .int x6, .int (x7 * (10 - x2)), .int (x8 + 1)]) C dX7_likely_136 rfl rfl (by decide) rfl ?_
      refine ow_goto (tgt := 102) C dX7_likely_139 (by decide) ?_
      exact Sat.mask hh (mk_y (mk_y (mk_y (mk_y (mk_y (mk_y (mk_y (mk_y (mk_y mk_0)))))))))
    · skip
      refine ow_iload_n C dX7_likely_125 rfl rfl ?_
      refine ow_goto (tgt := 133) C dX7_likely_126 (by decide) ?_
      refine ow_imul C dX7_likely_133 ?_
      refine ow_istore (L' := [.ref p0, .int x1, .int x2, .int x3, .int x4, .int x5, .int x6, .int (x7 * x2), .int x8]) C dX7_likely_134 (by decide) rfl ?_
      refine ow_iinc (v := x8 + 1) (L' := [.ref p0, .int x1, .int x2, .int x3, .int x4, .int x5, .int x6, .int (x7 * x2), .int (x8 + 1)]) C dX7_likely_136 rfl rfl (by decide) rfl ?_
      refine ow_goto (tgt := 102) C dX7_likely_139 (by decide) ?_
      exact Sat.mask hh (mk_y (mk_y (mk_y (mk_y (mk_y (mk_y (mk_y (mk_y (mk_y mk_0)))))))))
def sm_X7_likely_69 (K42 : Nat → Int32 → Int32 → Int32 → Int32 → Int32 → Int32 → aw_H → Prop) (K69 : Nat → Int32 → Int32 → Int32 → Int32 → Int32 → Int32 → aw_H → Prop) (K102 : Nat → Int32 → Int32 → Int32 → Int32 → Int32 → Int32 → Int32 → Int32 → aw_H → Prop) (Q : aw_R) (p0 : Nat) (x1 : Int32) (x2 : Int32) (x3 : Int32) (x4 : Int32) (x5 : Int32) (x6 : Int32) (h : aw_H) : Prop :=
  sv_O h p0 6 (tr_X7_states [.ref p0] h fun r2 h1 => sr_I r2 fun v3 => if v3 ≤ x6 then (tr_X7_common [.int x4, .int x5] h1 fun r5 h4 => sr_I r5 fun v6 => if ¬ x3 = 0 then (¬ v6 = 0 ∧ (Q (some (.int (x5 / v6))) h4)) else (¬ v6 = 0 ∧ (Q (some (.int (x4 / v6))) h4))) else (sg_R h1 p0 6 7 fun q7 => sa_I h1 q7 x6 fun v8 => tr_X7_has [.int v8, .int x1] h1 fun r10 h9 => sr_I r10 fun v11 => if v11 = 0 then (K102 p0 x1 x2 x3 x4 x5 x6 0 0 h9) else (K102 p0 x1 x2 x3 x4 x5 x6 1 0 h9)))
set_option maxRecDepth 100000 in
set_option maxHeartbeats 4000000 in
theorem bl_X7_likely_69 {X : aw_X} {Q : aw_R} (C : aw_C X cX7_likely RX7 9 6) (Z : aw_Z X cX7_likely (some .int) Q) (p0 : Nat) (x1 : Int32) (x2 : Int32) (x3 : Int32) (x4 : Int32) (x5 : Int32) (x6 : Int32) (h : aw_H) (hh : sm_X7_likely_69 (fun (p0 : Nat) (x1 : Int32) (x2 : Int32) (x3 : Int32) (x4 : Int32) (x5 : Int32) (x6 : Int32) (h : aw_H) => Sat X 42 [.ref p0, .int x1, .int x2, .int x3, .int x4, .int x5, .int x6, Value.null, Value.null] [] h) (fun (p0 : Nat) (x1 : Int32) (x2 : Int32) (x3 : Int32) (x4 : Int32) (x5 : Int32) (x6 : Int32) (h : aw_H) => Sat X 69 [.ref p0, .int x1, .int x2, .int x3, .int x4, .int x5, .int x6, Value.null, Value.null] [] h) (fun (p0 : Nat) (x1 : Int32) (x2 : Int32) (x3 : Int32) (x4 : Int32) (x5 : Int32) (x6 : Int32) (x7 : Int32) (x8 : Int32) (h : aw_H) => Sat X 102 [.ref p0, .int x1, .int x2, .int x3, .int x4, .int x5, .int x6, .int x7, .int x8] [] h) Q p0 x1 x2 x3 x4 x5 x6 h) : Sat X 69 [.ref p0, .int x1, .int x2, .int x3, .int x4, .int x5, .int x6, Value.null, Value.null] [] h := by
  unfold sm_X7_likely_69 at hh
  refine ow_iload C dX7_likely_69 rfl ?_
  refine ow_aload_n C dX7_likely_71 rfl rfl ?_
  refine ow_callV C (cv_X7_states _) (Nat.le_of_ble_eq_true rfl) kw_540 dX7_likely_72 (as := []) (st := [.int x6]) rfl rfl (Nat.le_of_ble_eq_true rfl) hh (fun r2 h1 hq => ?_)
  obtain ⟨v3, rfl, hh⟩ := sr_I_e hq
  show Sat X 75 [.ref p0, .int x1, .int x2, .int x3, .int x4, .int x5, .int x6, Value.null, Value.null] [.int v3, .int x6] h1
  refine ow_icmp_ge (tgt := 155) C dX7_likely_75 (by decide) hh (fun hh => ?_) (fun hh => ?_)
  · skip
    refine ow_iload C dX7_likely_155 rfl ?_
    refine ow_iload C dX7_likely_157 rfl ?_
    refine ow_callS C (cs_X7_common _) (Nat.le_of_ble_eq_true rfl) kw_739 dX7_likely_159 (as := [.int x4, .int x5]) (st := []) rfl rfl (Nat.le_of_ble_eq_true rfl) hh (fun r5 h4 hq => ?_)
    obtain ⟨v6, rfl, hh⟩ := sr_I_e hq
    show Sat X 162 [.ref p0, .int x1, .int x2, .int x3, .int x4, .int x5, .int x6, Value.null, Value.null] [.int v6] h4
    refine ow_istore (L' := [.ref p0, .int x1, .int x2, .int x3, .int x4, .int x5, .int v6, Value.null, Value.null]) C dX7_likely_162 (by decide) rfl ?_
    refine ow_iload_n C dX7_likely_164 rfl rfl ?_
    refine ow_if_ne (tgt := 176) C dX7_likely_165 (by decide) hh (fun hh => ?_) (fun hh => ?_)
    · skip
      refine ow_iload C dX7_likely_176 rfl ?_
      refine ow_iload C dX7_likely_178 rfl ?_
      refine ow_idiv C dX7_likely_180 hh (fun hh => ?_)
      exact ow_iret Z dX7_likely_181 trivial hh
    · skip
      refine ow_iload C dX7_likely_168 rfl ?_
      refine ow_iload C dX7_likely_170 rfl ?_
      refine ow_idiv C dX7_likely_172 hh (fun hh => ?_)
      refine ow_goto (tgt := 181) C dX7_likely_173 (by decide) ?_
      exact ow_iret Z dX7_likely_181 trivial hh
  · skip
    refine ow_aload_n C dX7_likely_78 rfl rfl ?_
    refine ow_getR (ci := 6) (k := 7) (T := TX7) C rfl igX7 (by decide) kw_706 dX7_likely_79 hh (fun q7 hh => ?_)
    refine ow_iload C dX7_likely_82 rfl ?_
    refine ow_iaload C dX7_likely_84 hh (fun v8 hh => ?_)
    refine ow_iload_n C dX7_likely_85 rfl rfl ?_
    refine ow_callS C (cs_X7_has _) (Nat.le_of_ble_eq_true rfl) kw_576 dX7_likely_86 (as := [.int v8, .int x1]) (st := []) rfl rfl (Nat.le_of_ble_eq_true rfl) hh (fun r10 h9 hq => ?_)
    obtain ⟨v11, rfl, hh⟩ := sr_I_e hq
    show Sat X 89 [.ref p0, .int x1, .int x2, .int x3, .int x4, .int x5, .int x6, Value.null, Value.null] [.int v11] h9
    refine ow_if_eq (tgt := 96) C dX7_likely_89 (by decide) hh (fun hh => ?_) (fun hh => ?_)
    · skip
      refine ow_iconst (v := 0) C dX7_likely_96 rfl ?_
      refine ow_istore (L' := [.ref p0, .int x1, .int x2, .int x3, .int x4, .int x5, .int x6, .int 0, Value.null]) C dX7_likely_97 (by decide) rfl ?_
      refine ow_iconst (v := 0) C dX7_likely_99 rfl ?_
      refine ow_istore (L' := [.ref p0, .int x1, .int x2, .int x3, .int x4, .int x5, .int x6, .int 0, .int 0]) C dX7_likely_100 (by decide) rfl ?_
      exact Sat.mask hh (mk_y (mk_y (mk_y (mk_y (mk_y (mk_y (mk_y (mk_y (mk_y mk_0)))))))))
    · skip
      refine ow_iconst (v := 1) C dX7_likely_92 rfl ?_
      refine ow_goto (tgt := 97) C dX7_likely_93 (by decide) ?_
      refine ow_istore (L' := [.ref p0, .int x1, .int x2, .int x3, .int x4, .int x5, .int x6, .int 1, Value.null]) C dX7_likely_97 (by decide) rfl ?_
      refine ow_iconst (v := 0) C dX7_likely_99 rfl ?_
      refine ow_istore (L' := [.ref p0, .int x1, .int x2, .int x3, .int x4, .int x5, .int x6, .int 1, .int 0]) C dX7_likely_100 (by decide) rfl ?_
      exact Sat.mask hh (mk_y (mk_y (mk_y (mk_y (mk_y (mk_y (mk_y (mk_y (mk_y mk_0)))))))))
def sm_X7_likely_42 (K42 : Nat → Int32 → Int32 → Int32 → Int32 → Int32 → Int32 → aw_H → Prop) (K69 : Nat → Int32 → Int32 → Int32 → Int32 → Int32 → Int32 → aw_H → Prop) (K102 : Nat → Int32 → Int32 → Int32 → Int32 → Int32 → Int32 → Int32 → Int32 → aw_H → Prop) (Q : aw_R) (p0 : Nat) (x1 : Int32) (x2 : Int32) (x3 : Int32) (x4 : Int32) (x5 : Int32) (x6 : Int32) (h : aw_H) : Prop :=
  sg_R h p0 6 0 fun q1 => sa_I h q1 0 fun v2 => if v2 ≤ x6 then (K69 p0 x1 x2 x3 x4 x5 0 h) else (K42 p0 x1 x2 x3 x4 (x5 * 10) (x6 + 1) h)
set_option maxRecDepth 100000 in
set_option maxHeartbeats 4000000 in
theorem bl_X7_likely_42 {X : aw_X} {Q : aw_R} (C : aw_C X cX7_likely RX7 9 6) (Z : aw_Z X cX7_likely (some .int) Q) (p0 : Nat) (x1 : Int32) (x2 : Int32) (x3 : Int32) (x4 : Int32) (x5 : Int32) (x6 : Int32) (h : aw_H) (hh : sm_X7_likely_42 (fun (p0 : Nat) (x1 : Int32) (x2 : Int32) (x3 : Int32) (x4 : Int32) (x5 : Int32) (x6 : Int32) (h : aw_H) => Sat X 42 [.ref p0, .int x1, .int x2, .int x3, .int x4, .int x5, .int x6, Value.null, Value.null] [] h) (fun (p0 : Nat) (x1 : Int32) (x2 : Int32) (x3 : Int32) (x4 : Int32) (x5 : Int32) (x6 : Int32) (h : aw_H) => Sat X 69 [.ref p0, .int x1, .int x2, .int x3, .int x4, .int x5, .int x6, Value.null, Value.null] [] h) (fun (p0 : Nat) (x1 : Int32) (x2 : Int32) (x3 : Int32) (x4 : Int32) (x5 : Int32) (x6 : Int32) (x7 : Int32) (x8 : Int32) (h : aw_H) => Sat X 102 [.ref p0, .int x1, .int x2, .int x3, .int x4, .int x5, .int x6, .int x7, .int x8] [] h) Q p0 x1 x2 x3 x4 x5 x6 h) : Sat X 42 [.ref p0, .int x1, .int x2, .int x3, .int x4, .int x5, .int x6, Value.null, Value.null] [] h := by
  unfold sm_X7_likely_42 at hh
  refine ow_iload C dX7_likely_42 rfl ?_
  refine ow_aload_n C dX7_likely_44 rfl rfl ?_
  refine ow_getR (ci := 6) (k := 0) (T := TX7) C rfl igX7 (by decide) kw_533 dX7_likely_45 hh (fun q1 hh => ?_)
  refine ow_iconst (v := 0) C dX7_likely_48 rfl ?_
  refine ow_iaload C dX7_likely_49 hh (fun v2 hh => ?_)
  refine ow_icmp_ge (tgt := 66) C dX7_likely_50 (by decide) hh (fun hh => ?_) (fun hh => ?_)
  · skip
    refine ow_iconst (v := 0) C dX7_likely_66 rfl ?_
    refine ow_istore (L' := [.ref p0, .int x1, .int x2, .int x3, .int x4, .int x5, .int 0, Value.null, Value.null]) C dX7_likely_67 (by decide) rfl ?_
    exact Sat.mask hh (mk_y (mk_y (mk_y (mk_y (mk_y (mk_y (mk_y (mk_n (mk_n mk_0)))))))))
  · skip
    refine ow_iload C dX7_likely_53 rfl ?_
    refine ow_bipush (v := 10) C dX7_likely_55 rfl ?_
    refine ow_imul C dX7_likely_57 ?_
    refine ow_istore (L' := [.ref p0, .int x1, .int x2, .int x3, .int x4, .int (x5 * 10), .int x6, Value.null, Value.null]) C dX7_likely_58 (by decide) rfl ?_
    refine ow_iinc (v := x6 + 1) (L' := [.ref p0, .int x1, .int x2, .int x3, .int x4, .int (x5 * 10), .int (x6 + 1), Value.null, Value.null]) C dX7_likely_60 rfl rfl (by decide) rfl ?_
    refine ow_goto (tgt := 42) C dX7_likely_63 (by decide) ?_
    exact Sat.mask hh (mk_y (mk_y (mk_y (mk_y (mk_y (mk_y (mk_y (mk_n (mk_n mk_0)))))))))
def sm_X7_likely_0 (K42 : Nat → Int32 → Int32 → Int32 → Int32 → Int32 → Int32 → aw_H → Prop) (K69 : Nat → Int32 → Int32 → Int32 → Int32 → Int32 → Int32 → aw_H → Prop) (K102 : Nat → Int32 → Int32 → Int32 → Int32 → Int32 → Int32 → Int32 → Int32 → aw_H → Prop) (Q : aw_R) (p0 : Nat) (x1 : Int32) (x2 : Int32) (x3 : Int32) (h : aw_H) : Prop :=
  sv_O h p0 6 (tr_X7_isWire [.ref p0, .int x1] h fun r2 h1 => sr_I r2 fun v3 => if v3 = 0 then (Q (some (.int ((-1)))) h1) else (tr_X7_in [.int x2, .int 0, .int 10] h1 fun r5 h4 => sr_I r5 fun v6 => if v6 = 0 then (Q (some (.int ((-1)))) h4) else (tr_X7_in [.int x3, .int 0, .int 1] h4 fun r8 h7 => sr_I r8 fun v9 => if ¬ v9 = 0 then (sv_O h7 p0 6 (tr_X7_layRuns [.ref p0] h7 fun r11 h10 => sr_V r11 <| K42 p0 x1 x2 x3 0 1 0 h10)) else (Q (some (.int ((-1)))) h7))))
set_option maxRecDepth 100000 in
set_option maxHeartbeats 4000000 in
theorem bl_X7_likely_0 {X : aw_X} {Q : aw_R} (C : aw_C X cX7_likely RX7 9 6) (Z : aw_Z X cX7_likely (some .int) Q) (p0 : Nat) (x1 : Int32) (x2 : Int32) (x3 : Int32) (h : aw_H) (hh : sm_X7_likely_0 (fun (p0 : Nat) (x1 : Int32) (x2 : Int32) (x3 : Int32) (x4 : Int32) (x5 : Int32) (x6 : Int32) (h : aw_H) => Sat X 42 [.ref p0, .int x1, .int x2, .int x3, .int x4, .int x5, .int x6, Value.null, Value.null] [] h) (fun (p0 : Nat) (x1 : Int32) (x2 : Int32) (x3 : Int32) (x4 : Int32) (x5 : Int32) (x6 : Int32) (h : aw_H) => Sat X 69 [.ref p0, .int x1, .int x2, .int x3, .int x4, .int x5, .int x6, Value.null, Value.null] [] h) (fun (p0 : Nat) (x1 : Int32) (x2 : Int32) (x3 : Int32) (x4 : Int32) (x5 : Int32) (x6 : Int32) (x7 : Int32) (x8 : Int32) (h : aw_H) => Sat X 102 [.ref p0, .int x1, .int x2, .int x3, .int x4, .int x5, .int x6, .int x7, .int x8] [] h) Q p0 x1 x2 x3 h) : Sat X 0 [.ref p0, .int x1, .int x2, .int x3, Value.null, Value.null, Value.null, Value.null, Value.null] [] h := by
  unfold sm_X7_likely_0 at hh
  refine ow_aload_n C dX7_likely_0 rfl rfl ?_
  refine ow_iload_n C dX7_likely_1 rfl rfl ?_
  refine ow_callV C (cv_X7_isWire _) (Nat.le_of_ble_eq_true rfl) kw_566 dX7_likely_2 (as := [.int x1]) (st := []) rfl rfl (Nat.le_of_ble_eq_true rfl) hh (fun r2 h1 hq => ?_)
  obtain ⟨v3, rfl, hh⟩ := sr_I_e hq
  show Sat X 5 [.ref p0, .int x1, .int x2, .int x3, Value.null, Value.null, Value.null, Value.null, Value.null] [.int v3] h1
  refine ow_if_eq (tgt := 27) C dX7_likely_5 (by decide) hh (fun hh => ?_) (fun hh => ?_)
  · skip
    refine ow_iconst (v := (-1)) C dX7_likely_27 rfl ?_
    exact ow_iret Z dX7_likely_28 trivial hh
  · skip
    refine ow_iload_n C dX7_likely_8 rfl rfl ?_
    refine ow_iconst (v := 0) C dX7_likely_9 rfl ?_
    refine ow_bipush (v := 10) C dX7_likely_10 rfl ?_
    refine ow_callS C (cs_X7_in _) (Nat.le_of_ble_eq_true rfl) kw_541 dX7_likely_12 (as := [.int x2, .int 0, .int 10]) (st := []) rfl rfl (Nat.le_of_ble_eq_true rfl) hh (fun r5 h4 hq => ?_)
    obtain ⟨v6, rfl, hh⟩ := sr_I_e hq
    show Sat X 15 [.ref p0, .int x1, .int x2, .int x3, Value.null, Value.null, Value.null, Value.null, Value.null] [.int v6] h4
    refine ow_if_eq (tgt := 27) C dX7_likely_15 (by decide) hh (fun hh => ?_) (fun hh => ?_)
    · skip
      refine ow_iconst (v := (-1)) C dX7_likely_27 rfl ?_
      exact ow_iret Z dX7_likely_28 trivial hh
    · skip
      refine ow_iload_n C dX7_likely_18 rfl rfl ?_
      refine ow_iconst (v := 0) C dX7_likely_19 rfl ?_
      refine ow_iconst (v := 1) C dX7_likely_20 rfl ?_
      refine ow_callS C (cs_X7_in _) (Nat.le_of_ble_eq_true rfl) kw_541 dX7_likely_21 (as := [.int x3, .int 0, .int 1]) (st := []) rfl rfl (Nat.le_of_ble_eq_true rfl) hh (fun r8 h7 hq => ?_)
      obtain ⟨v9, rfl, hh⟩ := sr_I_e hq
      show Sat X 24 [.ref p0, .int x1, .int x2, .int x3, Value.null, Value.null, Value.null, Value.null, Value.null] [.int v9] h7
      refine ow_if_ne (tgt := 29) C dX7_likely_24 (by decide) hh (fun hh => ?_) (fun hh => ?_)
      · skip
        refine ow_aload_n C dX7_likely_29 rfl rfl ?_
        refine ow_callV C (cv_X7_layRuns _) (Nat.le_of_ble_eq_true rfl) kw_718 dX7_likely_30 (as := []) (st := []) rfl rfl (Nat.le_of_ble_eq_true rfl) hh (fun r11 h10 hq => ?_)
        obtain ⟨rfl, hh⟩ := sr_V_e hq
        show Sat X 33 [.ref p0, .int x1, .int x2, .int x3, Value.null, Value.null, Value.null, Value.null, Value.null] [] h10
        refine ow_iconst (v := 0) C dX7_likely_33 rfl ?_
        refine ow_istore (L' := [.ref p0, .int x1, .int x2, .int x3, .int 0, Value.null, Value.null, Value.null, Value.null]) C dX7_likely_34 (by decide) rfl ?_
        refine ow_iconst (v := 1) C dX7_likely_36 rfl ?_
        refine ow_istore (L' := [.ref p0, .int x1, .int x2, .int x3, .int 0, .int 1, Value.null, Value.null, Value.null]) C dX7_likely_37 (by decide) rfl ?_
        refine ow_iconst (v := 0) C dX7_likely_39 rfl ?_
        refine ow_istore (L' := [.ref p0, .int x1, .int x2, .int x3, .int 0, .int 1, .int 0, Value.null, Value.null]) C dX7_likely_40 (by decide) rfl ?_
        exact Sat.mask hh (mk_y (mk_y (mk_y (mk_y (mk_y (mk_y (mk_y (mk_n (mk_n mk_0)))))))))
      · skip
        refine ow_iconst (v := (-1)) C dX7_likely_27 rfl ?_
        exact ow_iret Z dX7_likely_28 trivial hh
def tr_X7_likely : aw_T := fun as h Q => ∃ (p0 : Nat) (x1 : Int32) (x2 : Int32) (x3 : Int32), as = [.ref p0, .int x1, .int x2, .int x3] ∧ (∀ (K42 : Nat → Int32 → Int32 → Int32 → Int32 → Int32 → Int32 → aw_H → Prop) (K69 : Nat → Int32 → Int32 → Int32 → Int32 → Int32 → Int32 → aw_H → Prop) (K102 : Nat → Int32 → Int32 → Int32 → Int32 → Int32 → Int32 → Int32 → Int32 → aw_H → Prop), (∀ (p0 : Nat) (x1 : Int32) (x2 : Int32) (x3 : Int32) (x4 : Int32) (x5 : Int32) (x6 : Int32) (h : aw_H), sm_X7_likely_42 K42 K69 K102 Q p0 x1 x2 x3 x4 x5 x6 h → K42 p0 x1 x2 x3 x4 x5 x6 h) → (∀ (p0 : Nat) (x1 : Int32) (x2 : Int32) (x3 : Int32) (x4 : Int32) (x5 : Int32) (x6 : Int32) (h : aw_H), sm_X7_likely_69 K42 K69 K102 Q p0 x1 x2 x3 x4 x5 x6 h → K69 p0 x1 x2 x3 x4 x5 x6 h) → (∀ (p0 : Nat) (x1 : Int32) (x2 : Int32) (x3 : Int32) (x4 : Int32) (x5 : Int32) (x6 : Int32) (x7 : Int32) (x8 : Int32) (h : aw_H), sm_X7_likely_102 K42 K69 K102 Q p0 x1 x2 x3 x4 x5 x6 x7 x8 h → K102 p0 x1 x2 x3 x4 x5 x6 x7 x8 h) → sm_X7_likely_0 K42 K69 K102 Q p0 x1 x2 x3 h)
theorem tq_X7_likely {p0 : Nat} {x1 : Int32} {x2 : Int32} {x3 : Int32} {h : aw_H} {Q : aw_R} : tr_X7_likely [.ref p0, .int x1, .int x2, .int x3] h Q ↔ (∀ (K42 : Nat → Int32 → Int32 → Int32 → Int32 → Int32 → Int32 → aw_H → Prop) (K69 : Nat → Int32 → Int32 → Int32 → Int32 → Int32 → Int32 → aw_H → Prop) (K102 : Nat → Int32 → Int32 → Int32 → Int32 → Int32 → Int32 → Int32 → Int32 → aw_H → Prop), (∀ (p0 : Nat) (x1 : Int32) (x2 : Int32) (x3 : Int32) (x4 : Int32) (x5 : Int32) (x6 : Int32) (h : aw_H), sm_X7_likely_42 K42 K69 K102 Q p0 x1 x2 x3 x4 x5 x6 h → K42 p0 x1 x2 x3 x4 x5 x6 h) → (∀ (p0 : Nat) (x1 : Int32) (x2 : Int32) (x3 : Int32) (x4 : Int32) (x5 : Int32) (x6 : Int32) (h : aw_H), sm_X7_likely_69 K42 K69 K102 Q p0 x1 x2 x3 x4 x5 x6 h → K69 p0 x1 x2 x3 x4 x5 x6 h) → (∀ (p0 : Nat) (x1 : Int32) (x2 : Int32) (x3 : Int32) (x4 : Int32) (x5 : Int32) (x6 : Int32) (x7 : Int32) (x8 : Int32) (h : aw_H), sm_X7_likely_102 K42 K69 K102 Q p0 x1 x2 x3 x4 x5 x6 x7 x8 h → K102 p0 x1 x2 x3 x4 x5 x6 x7 x8 h) → sm_X7_likely_0 K42 K69 K102 Q p0 x1 x2 x3 h) := by
  constructor
  · rintro ⟨_, _, _, _, as0, hh⟩
    cases as0
    exact hh
  · intro hh
    exact ⟨_, _, _, _, rfl, hh⟩
theorem ct_X7_likely (E : aw_F) : CT E yX7_likely cX7_likely 9 (some .int) 6 tr_X7_likely := by
  refine ct_of (by decide) ?_
  intro X Q as h hE C Z hG
  subst hE
  obtain ⟨p0, x1, x2, x3, rfl, hh⟩ := hG
  refine ⟨[.ref p0, .int x1, .int x2, .int x3, Value.null, Value.null, Value.null, Value.null, Value.null], rfl, Nat.le_of_ble_eq_true rfl, ?_⟩
  exact bl_X7_likely_0 C Z p0 x1 x2 x3 h (hh (fun (p0 : Nat) (x1 : Int32) (x2 : Int32) (x3 : Int32) (x4 : Int32) (x5 : Int32) (x6 : Int32) (h : aw_H) => Sat X 42 [.ref p0, .int x1, .int x2, .int x3, .int x4, .int x5, .int x6, Value.null, Value.null] [] h) (fun (p0 : Nat) (x1 : Int32) (x2 : Int32) (x3 : Int32) (x4 : Int32) (x5 : Int32) (x6 : Int32) (h : aw_H) => Sat X 69 [.ref p0, .int x1, .int x2, .int x3, .int x4, .int x5, .int x6, Value.null, Value.null] [] h) (fun (p0 : Nat) (x1 : Int32) (x2 : Int32) (x3 : Int32) (x4 : Int32) (x5 : Int32) (x6 : Int32) (x7 : Int32) (x8 : Int32) (h : aw_H) => Sat X 102 [.ref p0, .int x1, .int x2, .int x3, .int x4, .int x5, .int x6, .int x7, .int x8] [] h) (fun p0 x1 x2 x3 x4 x5 x6 h hh => bl_X7_likely_42 C Z p0 x1 x2 x3 x4 x5 x6 h hh) (fun p0 x1 x2 x3 x4 x5 x6 h hh => bl_X7_likely_69 C Z p0 x1 x2 x3 x4 x5 x6 h hh) (fun p0 x1 x2 x3 x4 x5 x6 x7 x8 h hh => bl_X7_likely_102 C Z p0 x1 x2 x3 x4 x5 x6 x7 x8 h hh))
theorem cv_X7_likely (E : aw_F) : CV E yX7_likely cX7_likely 9 (some .int) 6 3 6 tr_X7_likely := ⟨ct_X7_likely E, by decide, kw_793, kw_794, kw_527, kw_792, by decide +kernel, _, _, rfl⟩
theorem dX7_image_0 : decode cX7_image 0 = .ok (.aload_n 0, 1) := by decide +kernel
theorem dX7_image_1 : decode cX7_image 1 = .ok (.iconst 0, 1) := by decide +kernel
theorem dX7_image_2 : decode cX7_image 2 = .ok (.sipush 766, 3) := by decide +kernel
theorem dX7_image_5 : decode cX7_image 5 = .ok (.sipush 766, 3) := by decide +kernel
theorem dX7_image_8 : decode cX7_image 8 = .ok (.invokevirtual 140, 3) := by decide +kernel
theorem dX7_image_11 : decode cX7_image 11 = .ok (.aload_n 0, 1) := by decide +kernel
theorem dX7_image_12 : decode cX7_image 12 = .ok (.iconst 1, 1) := by decide +kernel
theorem dX7_image_13 : decode cX7_image 13 = .ok (.putfield 200, 3) := by decide +kernel
theorem dX7_image_16 : decode cX7_image 16 = .ok (.iconst 1, 1) := by decide +kernel
theorem dX7_image_17 : decode cX7_image 17 = .ok (.ireturn, 1) := by decide +kernel
def sm_X7_image_0  (Q : aw_R) (p0 : Nat) (h : aw_H) : Prop :=
  sv_O h p0 6 (tr_X7_copyRow [.ref p0, .int 0, .int 766, .int 766] h fun r2 h1 => sr_V r2 <| sp_I h1 p0 6 1 1 fun h3 => Q (some (.int 1)) h3)
set_option maxRecDepth 100000 in
set_option maxHeartbeats 4000000 in
theorem bl_X7_image_0 {X : aw_X} {Q : aw_R} (C : aw_C X cX7_image RX7 1 1) (Z : aw_Z X cX7_image (some .int) Q) (p0 : Nat) (h : aw_H) (hh : sm_X7_image_0  Q p0 h) : Sat X 0 [.ref p0] [] h := by
  unfold sm_X7_image_0 at hh
  refine ow_aload_n C dX7_image_0 rfl rfl ?_
  refine ow_iconst (v := 0) C dX7_image_1 rfl ?_
  refine ow_sipush (v := 766) C dX7_image_2 rfl ?_
  refine ow_sipush (v := 766) C dX7_image_5 rfl ?_
  refine ow_callV C (cv_X7_copyRow _) (Nat.le_of_ble_eq_true rfl) kw_652 dX7_image_8 (as := [.int 0, .int 766, .int 766]) (st := []) rfl rfl (Nat.le_of_ble_eq_true rfl) hh (fun r2 h1 hq => ?_)
  obtain ⟨rfl, hh⟩ := sr_V_e hq
  show Sat X 11 [.ref p0] [] h1
  refine ow_aload_n C dX7_image_11 rfl rfl ?_
  refine ow_iconst (v := 1) C dX7_image_12 rfl ?_
  refine ow_putZ (ci := 6) (k := 1) (T := TX7) C rfl igX7 tyX7 tyX7_ok nmX7 (by decide) kw_795 rfl (by decide +kernel) (Or.inr rfl) dX7_image_13 hh (fun h3 hh => ?_)
  refine ow_iconst (v := 1) C dX7_image_16 rfl ?_
  exact ow_iret Z dX7_image_17 trivial hh
def tr_X7_image : aw_T := fun as h Q => ∃ (p0 : Nat), as = [.ref p0] ∧ (sm_X7_image_0  Q p0 h)
theorem tq_X7_image {p0 : Nat} {h : aw_H} {Q : aw_R} : tr_X7_image [.ref p0] h Q ↔ (sm_X7_image_0  Q p0 h) := by
  constructor
  · rintro ⟨_, as0, hh⟩
    cases as0
    exact hh
  · intro hh
    exact ⟨_, rfl, hh⟩
theorem ct_X7_image (E : aw_F) : CT E yX7_image cX7_image 1 (some .int) 1 tr_X7_image := by
  refine ct_of (by decide) ?_
  intro X Q as h hE C Z hG
  subst hE
  obtain ⟨p0, rfl, hh⟩ := hG
  refine ⟨[.ref p0], rfl, Nat.le_of_ble_eq_true rfl, ?_⟩
  exact bl_X7_image_0 C Z p0 h hh
theorem cv_X7_image (E : aw_F) : CV E yX7_image cX7_image 1 (some .int) 1 0 6 tr_X7_image := ⟨ct_X7_image E, by decide, kw_797, kw_798, kw_527, kw_796, by decide +kernel, _, _, rfl⟩
theorem dX7_restore_0 : decode cX7_restore 0 = .ok (.aload_n 0, 1) := by decide +kernel
theorem dX7_restore_1 : decode cX7_restore 1 = .ok (.getfield 200, 3) := by decide +kernel
theorem dX7_restore_4 : decode cX7_restore 4 = .ok (.ifCond .ne 6, 3) := by decide +kernel
theorem dX7_restore_7 : decode cX7_restore 7 = .ok (.bipush (-4), 2) := by decide +kernel
theorem dX7_restore_9 : decode cX7_restore 9 = .ok (.ireturn, 1) := by decide +kernel
theorem dX7_restore_10 : decode cX7_restore 10 = .ok (.aload_n 0, 1) := by decide +kernel
theorem dX7_restore_11 : decode cX7_restore 11 = .ok (.sipush 766, 3) := by decide +kernel
theorem dX7_restore_14 : decode cX7_restore 14 = .ok (.iconst 0, 1) := by decide +kernel
theorem dX7_restore_15 : decode cX7_restore 15 = .ok (.sipush 766, 3) := by decide +kernel
theorem dX7_restore_18 : decode cX7_restore 18 = .ok (.invokevirtual 140, 3) := by decide +kernel
theorem dX7_restore_21 : decode cX7_restore 21 = .ok (.iconst 1, 1) := by decide +kernel
theorem dX7_restore_22 : decode cX7_restore 22 = .ok (.ireturn, 1) := by decide +kernel
def sm_X7_restore_0  (Q : aw_R) (p0 : Nat) (h : aw_H) : Prop :=
  sg_I h p0 6 1 fun v1 => if ¬ v1 = 0 then (sv_O h p0 6 (tr_X7_copyRow [.ref p0, .int 766, .int 0, .int 766] h fun r3 h2 => sr_V r3 <| Q (some (.int 1)) h2)) else (Q (some (.int ((-4)))) h)
set_option maxRecDepth 100000 in
set_option maxHeartbeats 4000000 in
theorem bl_X7_restore_0 {X : aw_X} {Q : aw_R} (C : aw_C X cX7_restore RX7 1 1) (Z : aw_Z X cX7_restore (some .int) Q) (p0 : Nat) (h : aw_H) (hh : sm_X7_restore_0  Q p0 h) : Sat X 0 [.ref p0] [] h := by
  unfold sm_X7_restore_0 at hh
  refine ow_aload_n C dX7_restore_0 rfl rfl ?_
  refine ow_getI (ci := 6) (k := 1) (T := TX7) C rfl igX7 (by decide) kw_795 dX7_restore_1 hh (fun v1 hh => ?_)
  refine ow_if_ne (tgt := 10) C dX7_restore_4 (by decide) hh (fun hh => ?_) (fun hh => ?_)
  · skip
    refine ow_aload_n C dX7_restore_10 rfl rfl ?_
    refine ow_sipush (v := 766) C dX7_restore_11 rfl ?_
    refine ow_iconst (v := 0) C dX7_restore_14 rfl ?_
    refine ow_sipush (v := 766) C dX7_restore_15 rfl ?_
    refine ow_callV C (cv_X7_copyRow _) (Nat.le_of_ble_eq_true rfl) kw_652 dX7_restore_18 (as := [.int 766, .int 0, .int 766]) (st := []) rfl rfl (Nat.le_of_ble_eq_true rfl) hh (fun r3 h2 hq => ?_)
    obtain ⟨rfl, hh⟩ := sr_V_e hq
    show Sat X 21 [.ref p0] [] h2
    refine ow_iconst (v := 1) C dX7_restore_21 rfl ?_
    exact ow_iret Z dX7_restore_22 trivial hh
  · skip
    refine ow_bipush (v := (-4)) C dX7_restore_7 rfl ?_
    exact ow_iret Z dX7_restore_9 trivial hh
def tr_X7_restore : aw_T := fun as h Q => ∃ (p0 : Nat), as = [.ref p0] ∧ (sm_X7_restore_0  Q p0 h)
theorem tq_X7_restore {p0 : Nat} {h : aw_H} {Q : aw_R} : tr_X7_restore [.ref p0] h Q ↔ (sm_X7_restore_0  Q p0 h) := by
  constructor
  · rintro ⟨_, as0, hh⟩
    cases as0
    exact hh
  · intro hh
    exact ⟨_, rfl, hh⟩
theorem ct_X7_restore (E : aw_F) : CT E yX7_restore cX7_restore 1 (some .int) 1 tr_X7_restore := by
  refine ct_of (by decide) ?_
  intro X Q as h hE C Z hG
  subst hE
  obtain ⟨p0, rfl, hh⟩ := hG
  refine ⟨[.ref p0], rfl, Nat.le_of_ble_eq_true rfl, ?_⟩
  exact bl_X7_restore_0 C Z p0 h hh
theorem cv_X7_restore (E : aw_F) : CV E yX7_restore cX7_restore 1 (some .int) 1 0 6 tr_X7_restore := ⟨ct_X7_restore E, by decide, kw_800, kw_801, kw_527, kw_799, by decide +kernel, _, _, rfl⟩
theorem dX7_isSheet_0 : decode cX7_isSheet 0 = .ok (.iload_n 0, 1) := by decide +kernel
theorem dX7_isSheet_1 : decode cX7_isSheet 1 = .ok (.iconst 0, 1) := by decide +kernel
theorem dX7_isSheet_2 : decode cX7_isSheet 2 = .ok (.iconst 3, 1) := by decide +kernel
theorem dX7_isSheet_3 : decode cX7_isSheet 3 = .ok (.invokestatic 42, 3) := by decide +kernel
theorem dX7_isSheet_6 : decode cX7_isSheet 6 = .ok (.ireturn, 1) := by decide +kernel
def sm_X7_isSheet_0  (Q : aw_R) (x0 : Int32) (h : aw_H) : Prop :=
  tr_X7_in [.int x0, .int 0, .int 3] h fun r2 h1 => sr_I r2 fun v3 => (v3 = 0 ∨ v3 = 1) ∧ Q (some (.int v3)) h1
set_option maxRecDepth 100000 in
set_option maxHeartbeats 4000000 in
theorem bl_X7_isSheet_0 {X : aw_X} {Q : aw_R} (C : aw_C X cX7_isSheet RX7 1 1) (Z : aw_Z X cX7_isSheet (some .boolean) Q) (x0 : Int32) (h : aw_H) (hh : sm_X7_isSheet_0  Q x0 h) : Sat X 0 [.int x0] [] h := by
  unfold sm_X7_isSheet_0 at hh
  refine ow_iload_n C dX7_isSheet_0 rfl rfl ?_
  refine ow_iconst (v := 0) C dX7_isSheet_1 rfl ?_
  refine ow_iconst (v := 3) C dX7_isSheet_2 rfl ?_
  refine ow_callS C (cs_X7_in _) (Nat.le_of_ble_eq_true rfl) kw_541 dX7_isSheet_3 (as := [.int x0, .int 0, .int 3]) (st := []) rfl rfl (Nat.le_of_ble_eq_true rfl) hh (fun r2 h1 hq => ?_)
  obtain ⟨v3, rfl, hh⟩ := sr_I_e hq
  show Sat X 6 [.int x0] [.int v3] h1
  exact ow_iret Z dX7_isSheet_6 hh.1 hh.2
def tr_X7_isSheet : aw_T := fun as h Q => ∃ (x0 : Int32), as = [.int x0] ∧ (sm_X7_isSheet_0  Q x0 h)
theorem tq_X7_isSheet {x0 : Int32} {h : aw_H} {Q : aw_R} : tr_X7_isSheet [.int x0] h Q ↔ (sm_X7_isSheet_0  Q x0 h) := by
  constructor
  · rintro ⟨_, as0, hh⟩
    cases as0
    exact hh
  · intro hh
    exact ⟨_, rfl, hh⟩
theorem ct_X7_isSheet (E : aw_F) : CT E yX7_isSheet cX7_isSheet 1 (some .boolean) 1 tr_X7_isSheet := by
  refine ct_of (by decide) ?_
  intro X Q as h hE C Z hG
  subst hE
  obtain ⟨x0, rfl, hh⟩ := hG
  refine ⟨[.int x0], rfl, Nat.le_of_ble_eq_true rfl, ?_⟩
  exact bl_X7_isSheet_0 C Z x0 h hh
theorem cs_X7_isSheet (E : aw_F) : CS E yX7_isSheet cX7_isSheet 1 (some .boolean) 1 1 tr_X7_isSheet := ⟨ct_X7_isSheet E, by decide, kw_803, kw_527, kw_802, by decide +kernel⟩
theorem dX7_isLane_0 : decode cX7_isLane 0 = .ok (.iload_n 0, 1) := by decide +kernel
theorem dX7_isLane_1 : decode cX7_isLane 1 = .ok (.iconst 0, 1) := by decide +kernel
theorem dX7_isLane_2 : decode cX7_isLane 2 = .ok (.iconst 3, 1) := by decide +kernel
theorem dX7_isLane_3 : decode cX7_isLane 3 = .ok (.invokestatic 42, 3) := by decide +kernel
theorem dX7_isLane_6 : decode cX7_isLane 6 = .ok (.ireturn, 1) := by decide +kernel
def sm_X7_isLane_0  (Q : aw_R) (x0 : Int32) (h : aw_H) : Prop :=
  tr_X7_in [.int x0, .int 0, .int 3] h fun r2 h1 => sr_I r2 fun v3 => (v3 = 0 ∨ v3 = 1) ∧ Q (some (.int v3)) h1
set_option maxRecDepth 100000 in
set_option maxHeartbeats 4000000 in
theorem bl_X7_isLane_0 {X : aw_X} {Q : aw_R} (C : aw_C X cX7_isLane RX7 1 1) (Z : aw_Z X cX7_isLane (some .boolean) Q) (x0 : Int32) (h : aw_H) (hh : sm_X7_isLane_0  Q x0 h) : Sat X 0 [.int x0] [] h := by
  unfold sm_X7_isLane_0 at hh
  refine ow_iload_n C dX7_isLane_0 rfl rfl ?_
  refine ow_iconst (v := 0) C dX7_isLane_1 rfl ?_
  refine ow_iconst (v := 3) C dX7_isLane_2 rfl ?_
  refine ow_callS C (cs_X7_in _) (Nat.le_of_ble_eq_true rfl) kw_541 dX7_isLane_3 (as := [.int x0, .int 0, .int 3]) (st := []) rfl rfl (Nat.le_of_ble_eq_true rfl) hh (fun r2 h1 hq => ?_)
  obtain ⟨v3, rfl, hh⟩ := sr_I_e hq
  show Sat X 6 [.int x0] [.int v3] h1
  exact ow_iret Z dX7_isLane_6 hh.1 hh.2
def tr_X7_isLane : aw_T := fun as h Q => ∃ (x0 : Int32), as = [.int x0] ∧ (sm_X7_isLane_0  Q x0 h)
theorem tq_X7_isLane {x0 : Int32} {h : aw_H} {Q : aw_R} : tr_X7_isLane [.int x0] h Q ↔ (sm_X7_isLane_0  Q x0 h) := by
  constructor
  · rintro ⟨_, as0, hh⟩
    cases as0
    exact hh
  · intro hh
    exact ⟨_, rfl, hh⟩
theorem ct_X7_isLane (E : aw_F) : CT E yX7_isLane cX7_isLane 1 (some .boolean) 1 tr_X7_isLane := by
  refine ct_of (by decide) ?_
  intro X Q as h hE C Z hG
  subst hE
  obtain ⟨x0, rfl, hh⟩ := hG
  refine ⟨[.int x0], rfl, Nat.le_of_ble_eq_true rfl, ?_⟩
  exact bl_X7_isLane_0 C Z x0 h hh
theorem cs_X7_isLane (E : aw_F) : CS E yX7_isLane cX7_isLane 1 (some .boolean) 1 1 tr_X7_isLane := ⟨ct_X7_isLane E, by decide, kw_805, kw_527, kw_804, by decide +kernel⟩
theorem dX7_found_0 : decode cX7_found 0 = .ok (.aload_n 0, 1) := by decide +kernel
theorem dX7_found_1 : decode cX7_found 1 = .ok (.getfield 23, 3) := by decide +kernel
theorem dX7_found_4 : decode cX7_found 4 = .ok (.iload_n 1, 1) := by decide +kernel
theorem dX7_found_5 : decode cX7_found 5 = .ok (.iaload, 1) := by decide +kernel
theorem dX7_found_6 : decode cX7_found 6 = .ok (.bipush (-4), 2) := by decide +kernel
theorem dX7_found_8 : decode cX7_found 8 = .ok (.if_icmp .ne 6, 3) := by decide +kernel
theorem dX7_found_11 : decode cX7_found 11 = .ok (.bipush (-11), 2) := by decide +kernel
theorem dX7_found_13 : decode cX7_found 13 = .ok (.ireturn, 1) := by decide +kernel
theorem dX7_found_14 : decode cX7_found 14 = .ok (.aload_n 0, 1) := by decide +kernel
theorem dX7_found_15 : decode cX7_found 15 = .ok (.getfield 20, 3) := by decide +kernel
theorem dX7_found_18 : decode cX7_found 18 = .ok (.iload_n 1, 1) := by decide +kernel
theorem dX7_found_19 : decode cX7_found 19 = .ok (.iaload, 1) := by decide +kernel
theorem dX7_found_20 : decode cX7_found 20 = .ok (.iload_n 2, 1) := by decide +kernel
theorem dX7_found_21 : decode cX7_found 21 = .ok (.if_icmp .eq 6, 3) := by decide +kernel
theorem dX7_found_24 : decode cX7_found 24 = .ok (.bipush (-12), 2) := by decide +kernel
theorem dX7_found_26 : decode cX7_found 26 = .ok (.ireturn, 1) := by decide +kernel
theorem dX7_found_27 : decode cX7_found 27 = .ok (.iload_n 3, 1) := by decide +kernel
theorem dX7_found_28 : decode cX7_found 28 = .ok (.ifCond .lt 28, 3) := by decide +kernel
theorem dX7_found_31 : decode cX7_found 31 = .ok (.iload 4, 2) := by decide +kernel
theorem dX7_found_33 : decode cX7_found 33 = .ok (.ifCond .lt 23, 3) := by decide +kernel
theorem dX7_found_36 : decode cX7_found 36 = .ok (.iload 4, 2) := by decide +kernel
theorem dX7_found_38 : decode cX7_found 38 = .ok (.bipush 24, 2) := by decide +kernel
theorem dX7_found_40 : decode cX7_found 40 = .ok (.if_icmp .gt 16, 3) := by decide +kernel
theorem dX7_found_43 : decode cX7_found 43 = .ok (.iload_n 3, 1) := by decide +kernel
theorem dX7_found_44 : decode cX7_found 44 = .ok (.aload_n 0, 1) := by decide +kernel
theorem dX7_found_45 : decode cX7_found 45 = .ok (.getfield 23, 3) := by decide +kernel
theorem dX7_found_48 : decode cX7_found 48 = .ok (.iload_n 1, 1) := by decide +kernel
theorem dX7_found_49 : decode cX7_found 49 = .ok (.iaload, 1) := by decide +kernel
theorem dX7_found_50 : decode cX7_found 50 = .ok (.iload 4, 2) := by decide +kernel
theorem dX7_found_52 : decode cX7_found 52 = .ok (.isub, 1) := by decide +kernel
theorem dX7_found_53 : decode cX7_found 53 = .ok (.if_icmp .le 8, 3) := by decide +kernel
theorem dX7_found_56 : decode cX7_found 56 = .ok (.bipush (-13), 2) := by decide +kernel
theorem dX7_found_58 : decode cX7_found 58 = .ok (.goto 4, 3) := by decide +kernel
theorem dX7_found_61 : decode cX7_found 61 = .ok (.iconst 0, 1) := by decide +kernel
theorem dX7_found_62 : decode cX7_found 62 = .ok (.ireturn, 1) := by decide +kernel
def sm_X7_found_0  (Q : aw_R) (p0 : Nat) (x1 : Int32) (x2 : Int32) (x3 : Int32) (x4 : Int32) (h : aw_H) : Prop :=
  sg_R h p0 6 6 fun q1 => sa_I h q1 x1 fun v2 => if ¬ v2 = ((-4)) then (sg_R h p0 6 5 fun q3 => sa_I h q3 x1 fun v4 => if v4 = x2 then (if x3 < 0 then (Q (some (.int ((-13)))) h) else (if x4 < 0 then (Q (some (.int ((-13)))) h) else (if 24 < x4 then (Q (some (.int ((-13)))) h) else (sg_R h p0 6 6 fun q5 => sa_I h q5 x1 fun v6 => if x3 ≤ (v6 - x4) then (Q (some (.int 0)) h) else (Q (some (.int ((-13)))) h))))) else (Q (some (.int ((-12)))) h)) else (Q (some (.int ((-11)))) h)
set_option maxRecDepth 100000 in
set_option maxHeartbeats 4000000 in
theorem bl_X7_found_0 {X : aw_X} {Q : aw_R} (C : aw_C X cX7_found RX7 5 0) (Z : aw_Z X cX7_found (some .int) Q) (p0 : Nat) (x1 : Int32) (x2 : Int32) (x3 : Int32) (x4 : Int32) (h : aw_H) (hh : sm_X7_found_0  Q p0 x1 x2 x3 x4 h) : Sat X 0 [.ref p0, .int x1, .int x2, .int x3, .int x4] [] h := by
  unfold sm_X7_found_0 at hh
  refine ow_aload_n C dX7_found_0 rfl rfl ?_
  refine ow_getR (ci := 6) (k := 6) (T := TX7) C rfl igX7 (by decide) kw_806 dX7_found_1 hh (fun q1 hh => ?_)
  refine ow_iload_n C dX7_found_4 rfl rfl ?_
  refine ow_iaload C dX7_found_5 hh (fun v2 hh => ?_)
  refine ow_bipush (v := (-4)) C dX7_found_6 rfl ?_
  refine ow_icmp_ne (tgt := 14) C dX7_found_8 (by decide) hh (fun hh => ?_) (fun hh => ?_)
  · skip
    refine ow_aload_n C dX7_found_14 rfl rfl ?_
    refine ow_getR (ci := 6) (k := 5) (T := TX7) C rfl igX7 (by decide) kw_807 dX7_found_15 hh (fun q3 hh => ?_)
    refine ow_iload_n C dX7_found_18 rfl rfl ?_
    refine ow_iaload C dX7_found_19 hh (fun v4 hh => ?_)
    refine ow_iload_n C dX7_found_20 rfl rfl ?_
    refine ow_icmp_eq (tgt := 27) C dX7_found_21 (by decide) hh (fun hh => ?_) (fun hh => ?_)
    · skip
      refine ow_iload_n C dX7_found_27 rfl rfl ?_
      refine ow_if_lt (tgt := 56) C dX7_found_28 (by decide) hh (fun hh => ?_) (fun hh => ?_)
      · skip
        refine ow_bipush (v := (-13)) C dX7_found_56 rfl ?_
        refine ow_goto (tgt := 62) C dX7_found_58 (by decide) ?_
        exact ow_iret Z dX7_found_62 trivial hh
      · skip
        refine ow_iload C dX7_found_31 rfl ?_
        refine ow_if_lt (tgt := 56) C dX7_found_33 (by decide) hh (fun hh => ?_) (fun hh => ?_)
        · skip
          refine ow_bipush (v := (-13)) C dX7_found_56 rfl ?_
          refine ow_goto (tgt := 62) C dX7_found_58 (by decide) ?_
          exact ow_iret Z dX7_found_62 trivial hh
        · skip
          refine ow_iload C dX7_found_36 rfl ?_
          refine ow_bipush (v := 24) C dX7_found_38 rfl ?_
          refine ow_icmp_gt (tgt := 56) C dX7_found_40 (by decide) hh (fun hh => ?_) (fun hh => ?_)
          · skip
            refine ow_bipush (v := (-13)) C dX7_found_56 rfl ?_
            refine ow_goto (tgt := 62) C dX7_found_58 (by decide) ?_
            exact ow_iret Z dX7_found_62 trivial hh
          · skip
            refine ow_iload_n C dX7_found_43 rfl rfl ?_
            refine ow_aload_n C dX7_found_44 rfl rfl ?_
            refine ow_getR (ci := 6) (k := 6) (T := TX7) C rfl igX7 (by decide) kw_806 dX7_found_45 hh (fun q5 hh => ?_)
            refine ow_iload_n C dX7_found_48 rfl rfl ?_
            refine ow_iaload C dX7_found_49 hh (fun v6 hh => ?_)
            refine ow_iload C dX7_found_50 rfl ?_
            refine ow_isub C dX7_found_52 ?_
            refine ow_icmp_le (tgt := 61) C dX7_found_53 (by decide) hh (fun hh => ?_) (fun hh => ?_)
            · skip
              refine ow_iconst (v := 0) C dX7_found_61 rfl ?_
              exact ow_iret Z dX7_found_62 trivial hh
            · skip
              refine ow_bipush (v := (-13)) C dX7_found_56 rfl ?_
              refine ow_goto (tgt := 62) C dX7_found_58 (by decide) ?_
              exact ow_iret Z dX7_found_62 trivial hh
    · skip
      refine ow_bipush (v := (-12)) C dX7_found_24 rfl ?_
      exact ow_iret Z dX7_found_26 trivial hh
  · skip
    refine ow_bipush (v := (-11)) C dX7_found_11 rfl ?_
    exact ow_iret Z dX7_found_13 trivial hh
def tr_X7_found : aw_T := fun as h Q => ∃ (p0 : Nat) (x1 : Int32) (x2 : Int32) (x3 : Int32) (x4 : Int32), as = [.ref p0, .int x1, .int x2, .int x3, .int x4] ∧ (sm_X7_found_0  Q p0 x1 x2 x3 x4 h)
theorem tq_X7_found {p0 : Nat} {x1 : Int32} {x2 : Int32} {x3 : Int32} {x4 : Int32} {h : aw_H} {Q : aw_R} : tr_X7_found [.ref p0, .int x1, .int x2, .int x3, .int x4] h Q ↔ (sm_X7_found_0  Q p0 x1 x2 x3 x4 h) := by
  constructor
  · rintro ⟨_, _, _, _, _, as0, hh⟩
    cases as0
    exact hh
  · intro hh
    exact ⟨_, _, _, _, _, rfl, hh⟩
theorem ct_X7_found (E : aw_F) : CT E yX7_found cX7_found 5 (some .int) 0 tr_X7_found := by
  refine ct_of (by decide) ?_
  intro X Q as h hE C Z hG
  subst hE
  obtain ⟨p0, x1, x2, x3, x4, rfl, hh⟩ := hG
  refine ⟨[.ref p0, .int x1, .int x2, .int x3, .int x4], rfl, Nat.le_of_ble_eq_true rfl, ?_⟩
  exact bl_X7_found_0 C Z p0 x1 x2 x3 x4 h hh
theorem cv_X7_found (E : aw_F) : CV E yX7_found cX7_found 5 (some .int) 0 4 6 tr_X7_found := ⟨ct_X7_found E, by decide, kw_809, kw_810, kw_527, kw_808, by decide +kernel, _, _, rfl⟩
theorem dX7_isToldIn_0 : decode cX7_isToldIn 0 = .ok (.iconst 1, 1) := by decide +kernel
theorem dX7_isToldIn_1 : decode cX7_isToldIn 1 = .ok (.istore 6, 2) := by decide +kernel
theorem dX7_isToldIn_3 : decode cX7_isToldIn 3 = .ok (.iconst 0, 1) := by decide +kernel
theorem dX7_isToldIn_4 : decode cX7_isToldIn 4 = .ok (.istore 7, 2) := by decide +kernel
theorem dX7_isToldIn_6 : decode cX7_isToldIn 6 = .ok (.iload 7, 2) := by decide +kernel
theorem dX7_isToldIn_8 : decode cX7_isToldIn 8 = .ok (.iload 5, 2) := by decide +kernel
theorem dX7_isToldIn_10 : decode cX7_isToldIn 10 = .ok (.if_icmp .ge 50, 3) := by decide +kernel
theorem dX7_isToldIn_13 : decode cX7_isToldIn 13 = .ok (.iload 6, 2) := by decide +kernel
theorem dX7_isToldIn_15 : decode cX7_isToldIn 15 = .ok (.ifCond .eq 45, 3) := by decide +kernel
theorem dX7_isToldIn_18 : decode cX7_isToldIn 18 = .ok (.aload_n 0, 1) := by decide +kernel
theorem dX7_isToldIn_19 : decode cX7_isToldIn 19 = .ok (.iload_n 1, 1) := by decide +kernel
theorem dX7_isToldIn_20 : decode cX7_isToldIn 20 = .ok (.iload_n 2, 1) := by decide +kernel
theorem dX7_isToldIn_21 : decode cX7_isToldIn 21 = .ok (.iload 7, 2) := by decide +kernel
theorem dX7_isToldIn_23 : decode cX7_isToldIn 23 = .ok (.iadd, 1) := by decide +kernel
theorem dX7_isToldIn_24 : decode cX7_isToldIn 24 = .ok (.invokevirtual 163, 3) := by decide +kernel
theorem dX7_isToldIn_27 : decode cX7_isToldIn 27 = .ok (.i2l, 1) := by decide +kernel
theorem dX7_isToldIn_28 : decode cX7_isToldIn 28 = .ok (.aload_n 0, 1) := by decide +kernel
theorem dX7_isToldIn_29 : decode cX7_isToldIn 29 = .ok (.getfield 16, 3) := by decide +kernel
theorem dX7_isToldIn_32 : decode cX7_isToldIn 32 = .ok (.bipush 24, 2) := by decide +kernel
theorem dX7_isToldIn_34 : decode cX7_isToldIn 34 = .ok (.iload_n 3, 1) := by decide +kernel
theorem dX7_isToldIn_35 : decode cX7_isToldIn 35 = .ok (.imul, 1) := by decide +kernel
theorem dX7_isToldIn_36 : decode cX7_isToldIn 36 = .ok (.iload 4, 2) := by decide +kernel
theorem dX7_isToldIn_38 : decode cX7_isToldIn 38 = .ok (.iadd, 1) := by decide +kernel
theorem dX7_isToldIn_39 : decode cX7_isToldIn 39 = .ok (.iload 7, 2) := by decide +kernel
theorem dX7_isToldIn_41 : decode cX7_isToldIn 41 = .ok (.iadd, 1) := by decide +kernel
theorem dX7_isToldIn_42 : decode cX7_isToldIn 42 = .ok (.laload, 1) := by decide +kernel
theorem dX7_isToldIn_43 : decode cX7_isToldIn 43 = .ok (.lcmp, 1) := by decide +kernel
theorem dX7_isToldIn_44 : decode cX7_isToldIn 44 = .ok (.ifCond .ne 7, 3) := by decide +kernel
theorem dX7_isToldIn_47 : decode cX7_isToldIn 47 = .ok (.iconst 1, 1) := by decide +kernel
theorem dX7_isToldIn_48 : decode cX7_isToldIn 48 = .ok (.goto 4, 3) := by decide +kernel
theorem dX7_isToldIn_51 : decode cX7_isToldIn 51 = .ok (.iconst 0, 1) := by decide +kernel
theorem dX7_isToldIn_52 : decode cX7_isToldIn 52 = .ok (.istore 6, 2) := by decide +kernel
theorem dX7_isToldIn_54 : decode cX7_isToldIn 54 = .ok (.iinc 7 1, 3) := by decide +kernel
theorem dX7_isToldIn_57 : decode cX7_isToldIn 57 = .ok (.goto (-51), 3) := by decide +kernel
theorem dX7_isToldIn_60 : decode cX7_isToldIn 60 = .ok (.iload 6, 2) := by decide +kernel
theorem dX7_isToldIn_62 : decode cX7_isToldIn 62 = .ok (.ireturn, 1) := by decide +kernel
def sm_X7_isToldIn_6 (K6 : Nat → Int32 → Int32 → Int32 → Int32 → Int32 → Int32 → Int32 → aw_H → Prop) (Q : aw_R) (p0 : Nat) (x1 : Int32) (x2 : Int32) (x3 : Int32) (x4 : Int32) (x5 : Int32) (x6 : Int32) (x7 : Int32) (h : aw_H) : Prop :=
  if x5 ≤ x7 then ((x6 = 0 ∨ x6 = 1) ∧ Q (some (.int x6)) h) else (if x6 = 0 then ((x6 = 0 ∨ x6 = 1) ∧ Q (some (.int x6)) h) else (sv_O h p0 6 (tr_X7_runIn [.ref p0, .int x1, .int (x2 + x7)] h fun r2 h1 => sr_I r2 fun v3 => sg_R h1 p0 6 4 fun q4 => sa_L h1 q4 (((24 * x3) + x4) + x7) fun u5 => if ¬ (lg_cmp (Int32.toInt64 v3) u5) = 0 then (K6 p0 x1 x2 x3 x4 x5 0 (x7 + 1) h1) else (K6 p0 x1 x2 x3 x4 x5 1 (x7 + 1) h1))))
set_option maxRecDepth 100000 in
set_option maxHeartbeats 4000000 in
theorem bl_X7_isToldIn_6 {X : aw_X} {Q : aw_R} (C : aw_C X cX7_isToldIn RX7 8 5) (Z : aw_Z X cX7_isToldIn (some .boolean) Q) (p0 : Nat) (x1 : Int32) (x2 : Int32) (x3 : Int32) (x4 : Int32) (x5 : Int32) (x6 : Int32) (x7 : Int32) (h : aw_H) (hh : sm_X7_isToldIn_6 (fun (p0 : Nat) (x1 : Int32) (x2 : Int32) (x3 : Int32) (x4 : Int32) (x5 : Int32) (x6 : Int32) (x7 : Int32) (h : aw_H) => Sat X 6 [.ref p0, .int x1, .int x2, .int x3, .int x4, .int x5, .int x6, .int x7] [] h) Q p0 x1 x2 x3 x4 x5 x6 x7 h) : Sat X 6 [.ref p0, .int x1, .int x2, .int x3, .int x4, .int x5, .int x6, .int x7] [] h := by
  unfold sm_X7_isToldIn_6 at hh
  refine ow_iload C dX7_isToldIn_6 rfl ?_
  refine ow_iload C dX7_isToldIn_8 rfl ?_
  refine ow_icmp_ge (tgt := 60) C dX7_isToldIn_10 (by decide) hh (fun hh => ?_) (fun hh => ?_)
  · skip
    refine ow_iload C dX7_isToldIn_60 rfl ?_
    exact ow_iret Z dX7_isToldIn_62 hh.1 hh.2
  · skip
    refine ow_iload C dX7_isToldIn_13 rfl ?_
    refine ow_if_eq (tgt := 60) C dX7_isToldIn_15 (by decide) hh (fun hh => ?_) (fun hh => ?_)
    · skip
      refine ow_iload C dX7_isToldIn_60 rfl ?_
      exact ow_iret Z dX7_isToldIn_62 hh.1 hh.2
    · skip
      refine ow_aload_n C dX7_isToldIn_18 rfl rfl ?_
      refine ow_iload_n C dX7_isToldIn_19 rfl rfl ?_
      refine ow_iload_n C dX7_isToldIn_20 rfl rfl ?_
      refine ow_iload C dX7_isToldIn_21 rfl ?_
      refine ow_iadd C dX7_isToldIn_23 ?_
      refine ow_callV C (cv_X7_runIn _) (Nat.le_of_ble_eq_true rfl) kw_707 dX7_isToldIn_24 (as := [.int x1, .int (x2 + x7)]) (st := []) rfl rfl (Nat.le_of_ble_eq_true rfl) hh (fun r2 h1 hq => ?_)
      obtain ⟨v3, rfl, hh⟩ := sr_I_e hq
      show Sat X 27 [.ref p0, .int x1, .int x2, .int x3, .int x4, .int x5, .int x6, .int x7] [.int v3] h1
      refine ow_i2l C dX7_isToldIn_27 ?_
      refine ow_aload_n C dX7_isToldIn_28 rfl rfl ?_
      refine ow_getR (ci := 6) (k := 4) (T := TX7) C rfl igX7 (by decide) kw_811 dX7_isToldIn_29 hh (fun q4 hh => ?_)
      refine ow_bipush (v := 24) C dX7_isToldIn_32 rfl ?_
      refine ow_iload_n C dX7_isToldIn_34 rfl rfl ?_
      refine ow_imul C dX7_isToldIn_35 ?_
      refine ow_iload C dX7_isToldIn_36 rfl ?_
      refine ow_iadd C dX7_isToldIn_38 ?_
      refine ow_iload C dX7_isToldIn_39 rfl ?_
      refine ow_iadd C dX7_isToldIn_41 ?_
      refine ow_laload C dX7_isToldIn_42 hh (fun u5 hh => ?_)
      refine ow_lcmp C dX7_isToldIn_43 ?_
      refine ow_if_ne (tgt := 51) C dX7_isToldIn_44 (by decide) hh (fun hh => ?_) (fun hh => ?_)
      · skip
        refine ow_iconst (v := 0) C dX7_isToldIn_51 rfl ?_
        refine ow_istore (L' := [.ref p0, .int x1, .int x2, .int x3, .int x4, .int x5, .int 0, .int x7]) C dX7_isToldIn_52 (by decide) rfl ?_
        refine ow_iinc (v := x7 + 1) (L' := [.ref p0, .int x1, .int x2, .int x3, .int x4, .int x5, .int 0, .int (x7 + 1)]) C dX7_isToldIn_54 rfl rfl (by decide) rfl ?_
        refine ow_goto (tgt := 6) C dX7_isToldIn_57 (by decide) ?_
        exact Sat.mask hh (mk_y (mk_y (mk_y (mk_y (mk_y (mk_y (mk_y (mk_y mk_0))))))))
      · skip
        refine ow_iconst (v := 1) C dX7_isToldIn_47 rfl ?_
        refine ow_goto (tgt := 52) C dX7_isToldIn_48 (by decide) ?_
        refine ow_istore (L' := [.ref p0, .int x1, .int x2, .int x3, .int x4, .int x5, .int 1, .int x7]) C dX7_isToldIn_52 (by decide) rfl ?_
        refine ow_iinc (v := x7 + 1) (L' := [.ref p0, .int x1, .int x2, .int x3, .int x4, .int x5, .int 1, .int (x7 + 1)]) C dX7_isToldIn_54 rfl rfl (by decide) rfl ?_
        refine ow_goto (tgt := 6) C dX7_isToldIn_57 (by decide) ?_
        exact Sat.mask hh (mk_y (mk_y (mk_y (mk_y (mk_y (mk_y (mk_y (mk_y mk_0))))))))
def sm_X7_isToldIn_0 (K6 : Nat → Int32 → Int32 → Int32 → Int32 → Int32 → Int32 → Int32 → aw_H → Prop) (Q : aw_R) (p0 : Nat) (x1 : Int32) (x2 : Int32) (x3 : Int32) (x4 : Int32) (x5 : Int32) (h : aw_H) : Prop :=
  K6 p0 x1 x2 x3 x4 x5 1 0 h
set_option maxRecDepth 100000 in
set_option maxHeartbeats 4000000 in
theorem bl_X7_isToldIn_0 {X : aw_X} {Q : aw_R} (C : aw_C X cX7_isToldIn RX7 8 5) (Z : aw_Z X cX7_isToldIn (some .boolean) Q) (p0 : Nat) (x1 : Int32) (x2 : Int32) (x3 : Int32) (x4 : Int32) (x5 : Int32) (h : aw_H) (hh : sm_X7_isToldIn_0 (fun (p0 : Nat) (x1 : Int32) (x2 : Int32) (x3 : Int32) (x4 : Int32) (x5 : Int32) (x6 : Int32) (x7 : Int32) (h : aw_H) => Sat X 6 [.ref p0, .int x1, .int x2, .int x3, .int x4, .int x5, .int x6, .int x7] [] h) Q p0 x1 x2 x3 x4 x5 h) : Sat X 0 [.ref p0, .int x1, .int x2, .int x3, .int x4, .int x5, Value.null, Value.null] [] h := by
  unfold sm_X7_isToldIn_0 at hh
  refine ow_iconst (v := 1) C dX7_isToldIn_0 rfl ?_
  refine ow_istore (L' := [.ref p0, .int x1, .int x2, .int x3, .int x4, .int x5, .int 1, Value.null]) C dX7_isToldIn_1 (by decide) rfl ?_
  refine ow_iconst (v := 0) C dX7_isToldIn_3 rfl ?_
  refine ow_istore (L' := [.ref p0, .int x1, .int x2, .int x3, .int x4, .int x5, .int 1, .int 0]) C dX7_isToldIn_4 (by decide) rfl ?_
  exact Sat.mask hh (mk_y (mk_y (mk_y (mk_y (mk_y (mk_y (mk_y (mk_y mk_0))))))))
def tr_X7_isToldIn : aw_T := fun as h Q => ∃ (p0 : Nat) (x1 : Int32) (x2 : Int32) (x3 : Int32) (x4 : Int32) (x5 : Int32), as = [.ref p0, .int x1, .int x2, .int x3, .int x4, .int x5] ∧ (∀ (K6 : Nat → Int32 → Int32 → Int32 → Int32 → Int32 → Int32 → Int32 → aw_H → Prop), (∀ (p0 : Nat) (x1 : Int32) (x2 : Int32) (x3 : Int32) (x4 : Int32) (x5 : Int32) (x6 : Int32) (x7 : Int32) (h : aw_H), sm_X7_isToldIn_6 K6 Q p0 x1 x2 x3 x4 x5 x6 x7 h → K6 p0 x1 x2 x3 x4 x5 x6 x7 h) → sm_X7_isToldIn_0 K6 Q p0 x1 x2 x3 x4 x5 h)
theorem tq_X7_isToldIn {p0 : Nat} {x1 : Int32} {x2 : Int32} {x3 : Int32} {x4 : Int32} {x5 : Int32} {h : aw_H} {Q : aw_R} : tr_X7_isToldIn [.ref p0, .int x1, .int x2, .int x3, .int x4, .int x5] h Q ↔ (∀ (K6 : Nat → Int32 → Int32 → Int32 → Int32 → Int32 → Int32 → Int32 → aw_H → Prop), (∀ (p0 : Nat) (x1 : Int32) (x2 : Int32) (x3 : Int32) (x4 : Int32) (x5 : Int32) (x6 : Int32) (x7 : Int32) (h : aw_H), sm_X7_isToldIn_6 K6 Q p0 x1 x2 x3 x4 x5 x6 x7 h → K6 p0 x1 x2 x3 x4 x5 x6 x7 h) → sm_X7_isToldIn_0 K6 Q p0 x1 x2 x3 x4 x5 h) := by
  constructor
  · rintro ⟨_, _, _, _, _, _, as0, hh⟩
    cases as0
    exact hh
  · intro hh
    exact ⟨_, _, _, _, _, _, rfl, hh⟩
theorem ct_X7_isToldIn (E : aw_F) : CT E yX7_isToldIn cX7_isToldIn 8 (some .boolean) 5 tr_X7_isToldIn := by
  refine ct_of (by decide) ?_
  intro X Q as h hE C Z hG
  subst hE
  obtain ⟨p0, x1, x2, x3, x4, x5, rfl, hh⟩ := hG
  refine ⟨[.ref p0, .int x1, .int x2, .int x3, .int x4, .int x5, Value.null, Value.null], rfl, Nat.le_of_ble_eq_true rfl, ?_⟩
  exact bl_X7_isToldIn_0 C Z p0 x1 x2 x3 x4 x5 h (hh (fun (p0 : Nat) (x1 : Int32) (x2 : Int32) (x3 : Int32) (x4 : Int32) (x5 : Int32) (x6 : Int32) (x7 : Int32) (h : aw_H) => Sat X 6 [.ref p0, .int x1, .int x2, .int x3, .int x4, .int x5, .int x6, .int x7] [] h) (fun p0 x1 x2 x3 x4 x5 x6 x7 h hh => bl_X7_isToldIn_6 C Z p0 x1 x2 x3 x4 x5 x6 x7 h hh))
theorem cv_X7_isToldIn (E : aw_F) : CV E yX7_isToldIn cX7_isToldIn 8 (some .boolean) 5 5 6 tr_X7_isToldIn := ⟨ct_X7_isToldIn E, by decide, kw_813, kw_814, kw_527, kw_812, by decide +kernel, _, _, rfl⟩
theorem dX7_deaths_0 : decode cX7_deaths 0 = .ok (.iconst 0, 1) := by decide +kernel
theorem dX7_deaths_1 : decode cX7_deaths 1 = .ok (.istore 5, 2) := by decide +kernel
theorem dX7_deaths_3 : decode cX7_deaths 3 = .ok (.iconst 0, 1) := by decide +kernel
theorem dX7_deaths_4 : decode cX7_deaths 4 = .ok (.istore 6, 2) := by decide +kernel
theorem dX7_deaths_6 : decode cX7_deaths 6 = .ok (.iload 6, 2) := by decide +kernel
theorem dX7_deaths_8 : decode cX7_deaths 8 = .ok (.aload_n 0, 1) := by decide +kernel
theorem dX7_deaths_9 : decode cX7_deaths 9 = .ok (.getfield 7, 3) := by decide +kernel
theorem dX7_deaths_12 : decode cX7_deaths 12 = .ok (.iconst 1, 1) := by decide +kernel
theorem dX7_deaths_13 : decode cX7_deaths 13 = .ok (.iaload, 1) := by decide +kernel
theorem dX7_deaths_14 : decode cX7_deaths 14 = .ok (.if_icmp .ge 47, 3) := by decide +kernel
theorem dX7_deaths_17 : decode cX7_deaths 17 = .ok (.aload_n 0, 1) := by decide +kernel
theorem dX7_deaths_18 : decode cX7_deaths 18 = .ok (.invokevirtual 182, 3) := by decide +kernel
theorem dX7_deaths_21 : decode cX7_deaths 21 = .ok (.aload_n 0, 1) := by decide +kernel
theorem dX7_deaths_22 : decode cX7_deaths 22 = .ok (.iload 6, 2) := by decide +kernel
theorem dX7_deaths_24 : decode cX7_deaths 24 = .ok (.invokevirtual 188, 3) := by decide +kernel
theorem dX7_deaths_27 : decode cX7_deaths 27 = .ok (.iload 5, 2) := by decide +kernel
theorem dX7_deaths_29 : decode cX7_deaths 29 = .ok (.aload_n 0, 1) := by decide +kernel
theorem dX7_deaths_30 : decode cX7_deaths 30 = .ok (.sipush 1532, 3) := by decide +kernel
theorem dX7_deaths_33 : decode cX7_deaths 33 = .ok (.iload_n 1, 1) := by decide +kernel
theorem dX7_deaths_34 : decode cX7_deaths 34 = .ok (.iload_n 2, 1) := by decide +kernel
theorem dX7_deaths_35 : decode cX7_deaths 35 = .ok (.iload_n 3, 1) := by decide +kernel
theorem dX7_deaths_36 : decode cX7_deaths 36 = .ok (.iload 4, 2) := by decide +kernel
theorem dX7_deaths_38 : decode cX7_deaths 38 = .ok (.invokevirtual 204, 3) := by decide +kernel
theorem dX7_deaths_41 : decode cX7_deaths 41 = .ok (.ifCond .eq 10, 3) := by decide +kernel
theorem dX7_deaths_44 : decode cX7_deaths 44 = .ok (.iconst 1, 1) := by decide +kernel
theorem dX7_deaths_45 : decode cX7_deaths 45 = .ok (.iload 6, 2) := by decide +kernel
theorem dX7_deaths_47 : decode cX7_deaths 47 = .ok (.ishl, 1) := by decide +kernel
theorem dX7_deaths_48 : decode cX7_deaths 48 = .ok (.goto 4, 3) := by decide +kernel
theorem dX7_deaths_51 : decode cX7_deaths 51 = .ok (.iconst 0, 1) := by decide +kernel
theorem dX7_deaths_52 : decode cX7_deaths 52 = .ok (.ior, 1) := by decide +kernel
theorem dX7_deaths_53 : decode cX7_deaths 53 = .ok (.istore 5, 2) := by decide +kernel
theorem dX7_deaths_55 : decode cX7_deaths 55 = .ok (.iinc 6 1, 3) := by decide +kernel
theorem dX7_deaths_58 : decode cX7_deaths 58 = .ok (.goto (-52), 3) := by decide +kernel
theorem dX7_deaths_61 : decode cX7_deaths 61 = .ok (.iload 5, 2) := by decide +kernel
theorem dX7_deaths_63 : decode cX7_deaths 63 = .ok (.ireturn, 1) := by decide +kernel
def sm_X7_deaths_6 (K6 : Nat → Int32 → Int32 → Int32 → Int32 → Int32 → Int32 → aw_H → Prop) (Q : aw_R) (p0 : Nat) (x1 : Int32) (x2 : Int32) (x3 : Int32) (x4 : Int32) (x5 : Int32) (x6 : Int32) (h : aw_H) : Prop :=
  sg_R h p0 6 0 fun q1 => sa_I h q1 1 fun v2 => if v2 ≤ x6 then (Q (some (.int x5)) h) else (sv_O h p0 6 (tr_X7_beginTry [.ref p0] h fun r4 h3 => sr_V r4 <| sv_O h3 p0 6 (tr_X7_killIn [.ref p0, .int x6] h3 fun r6 h5 => sr_V r6 <| sv_O h5 p0 6 (tr_X7_isToldIn [.ref p0, .int 1532, .int x1, .int x2, .int x3, .int x4] h5 fun r8 h7 => sr_I r8 fun v9 => if v9 = 0 then (K6 p0 x1 x2 x3 x4 (x5 ||| 0) (x6 + 1) h7) else (K6 p0 x1 x2 x3 x4 (x5 ||| ((1 : Int32) <<< (x6 &&& 31))) (x6 + 1) h7)))))
set_option maxRecDepth 100000 in
set_option maxHeartbeats 4000000 in
theorem bl_X7_deaths_6 {X : aw_X} {Q : aw_R} (C : aw_C X cX7_deaths RX7 7 6) (Z : aw_Z X cX7_deaths (some .int) Q) (p0 : Nat) (x1 : Int32) (x2 : Int32) (x3 : Int32) (x4 : Int32) (x5 : Int32) (x6 : Int32) (h : aw_H) (hh : sm_X7_deaths_6 (fun (p0 : Nat) (x1 : Int32) (x2 : Int32) (x3 : Int32) (x4 : Int32) (x5 : Int32) (x6 : Int32) (h : aw_H) => Sat X 6 [.ref p0, .int x1, .int x2, .int x3, .int x4, .int x5, .int x6] [] h) Q p0 x1 x2 x3 x4 x5 x6 h) : Sat X 6 [.ref p0, .int x1, .int x2, .int x3, .int x4, .int x5, .int x6] [] h := by
  unfold sm_X7_deaths_6 at hh
  refine ow_iload C dX7_deaths_6 rfl ?_
  refine ow_aload_n C dX7_deaths_8 rfl rfl ?_
  refine ow_getR (ci := 6) (k := 0) (T := TX7) C rfl igX7 (by decide) kw_533 dX7_deaths_9 hh (fun q1 hh => ?_)
  refine ow_iconst (v := 1) C dX7_deaths_12 rfl ?_
  refine ow_iaload C dX7_deaths_13 hh (fun v2 hh => ?_)
  refine ow_icmp_ge (tgt := 61) C dX7_deaths_14 (by decide) hh (fun hh => ?_) (fun hh => ?_)
  · skip
    refine ow_iload C dX7_deaths_61 rfl ?_
    exact ow_iret Z dX7_deaths_63 trivial hh
  · skip
    refine ow_aload_n C dX7_deaths_17 rfl rfl ?_
    refine ow_callV C (cv_X7_beginTry _) (Nat.le_of_ble_eq_true rfl) kw_752 dX7_deaths_18 (as := []) (st := []) rfl rfl (Nat.le_of_ble_eq_true rfl) hh (fun r4 h3 hq => ?_)
    obtain ⟨rfl, hh⟩ := sr_V_e hq
    show Sat X 21 [.ref p0, .int x1, .int x2, .int x3, .int x4, .int x5, .int x6] [] h3
    refine ow_aload_n C dX7_deaths_21 rfl rfl ?_
    refine ow_iload C dX7_deaths_22 rfl ?_
    refine ow_callV C (cv_X7_killIn _) (Nat.le_of_ble_eq_true rfl) kw_760 dX7_deaths_24 (as := [.int x6]) (st := []) rfl rfl (Nat.le_of_ble_eq_true rfl) hh (fun r6 h5 hq => ?_)
    obtain ⟨rfl, hh⟩ := sr_V_e hq
    show Sat X 27 [.ref p0, .int x1, .int x2, .int x3, .int x4, .int x5, .int x6] [] h5
    refine ow_iload C dX7_deaths_27 rfl ?_
    refine ow_aload_n C dX7_deaths_29 rfl rfl ?_
    refine ow_sipush (v := 1532) C dX7_deaths_30 rfl ?_
    refine ow_iload_n C dX7_deaths_33 rfl rfl ?_
    refine ow_iload_n C dX7_deaths_34 rfl rfl ?_
    refine ow_iload_n C dX7_deaths_35 rfl rfl ?_
    refine ow_iload C dX7_deaths_36 rfl ?_
    refine ow_callV C (cv_X7_isToldIn _) (Nat.le_of_ble_eq_true rfl) kw_815 dX7_deaths_38 (as := [.int 1532, .int x1, .int x2, .int x3, .int x4]) (st := [.int x5]) rfl rfl (Nat.le_of_ble_eq_true rfl) hh (fun r8 h7 hq => ?_)
    obtain ⟨v9, rfl, hh⟩ := sr_I_e hq
    show Sat X 41 [.ref p0, .int x1, .int x2, .int x3, .int x4, .int x5, .int x6] [.int v9, .int x5] h7
    refine ow_if_eq (tgt := 51) C dX7_deaths_41 (by decide) hh (fun hh => ?_) (fun hh => ?_)
    · skip
      refine ow_iconst (v := 0) C dX7_deaths_51 rfl ?_
      refine ow_ior C dX7_deaths_52 ?_
      refine ow_istore (L' := [.ref p0, .int x1, .int x2, .int x3, .int x4, .int (x5 ||| 0), .int x6]) C dX7_deaths_53 (by decide) rfl ?_
      refine ow_iinc (v := x6 + 1) (L' := [.ref p0, .int x1, .int x2, .int x3, .int x4, .int (x5 ||| 0), .int (x6 + 1)]) C dX7_deaths_55 rfl rfl (by decide) rfl ?_
      refine ow_goto (tgt := 6) C dX7_deaths_58 (by decide) ?_
      exact Sat.mask hh (mk_y (mk_y (mk_y (mk_y (mk_y (mk_y (mk_y mk_0)))))))
    · skip
      refine ow_iconst (v := 1) C dX7_deaths_44 rfl ?_
      refine ow_iload C dX7_deaths_45 rfl ?_
      refine ow_ishl C dX7_deaths_47 ?_
      refine ow_goto (tgt := 52) C dX7_deaths_48 (by decide) ?_
      refine ow_ior C dX7_deaths_52 ?_
      refine ow_istore (L' := [.ref p0, .int x1, .int x2, .int x3, .int x4, .int (x5 ||| ((1 : Int32) <<< (x6 &&& 31))), .int x6]) C dX7_deaths_53 (by decide) rfl ?_
      refine ow_iinc (v := x6 + 1) (L' := [.ref p0, .int x1, .int x2, .int x3, .int x4, .int (x5 ||| ((1 : Int32) <<< (x6 &&& 31))), .int (x6 + 1)]) C dX7_deaths_55 rfl rfl (by decide) rfl ?_
      refine ow_goto (tgt := 6) C dX7_deaths_58 (by decide) ?_
      exact Sat.mask hh (mk_y (mk_y (mk_y (mk_y (mk_y (mk_y (mk_y mk_0)))))))
def sm_X7_deaths_0 (K6 : Nat → Int32 → Int32 → Int32 → Int32 → Int32 → Int32 → aw_H → Prop) (Q : aw_R) (p0 : Nat) (x1 : Int32) (x2 : Int32) (x3 : Int32) (x4 : Int32) (h : aw_H) : Prop :=
  K6 p0 x1 x2 x3 x4 0 0 h
set_option maxRecDepth 100000 in
set_option maxHeartbeats 4000000 in
theorem bl_X7_deaths_0 {X : aw_X} {Q : aw_R} (C : aw_C X cX7_deaths RX7 7 6) (Z : aw_Z X cX7_deaths (some .int) Q) (p0 : Nat) (x1 : Int32) (x2 : Int32) (x3 : Int32) (x4 : Int32) (h : aw_H) (hh : sm_X7_deaths_0 (fun (p0 : Nat) (x1 : Int32) (x2 : Int32) (x3 : Int32) (x4 : Int32) (x5 : Int32) (x6 : Int32) (h : aw_H) => Sat X 6 [.ref p0, .int x1, .int x2, .int x3, .int x4, .int x5, .int x6] [] h) Q p0 x1 x2 x3 x4 h) : Sat X 0 [.ref p0, .int x1, .int x2, .int x3, .int x4, Value.null, Value.null] [] h := by
  unfold sm_X7_deaths_0 at hh
  refine ow_iconst (v := 0) C dX7_deaths_0 rfl ?_
  refine ow_istore (L' := [.ref p0, .int x1, .int x2, .int x3, .int x4, .int 0, Value.null]) C dX7_deaths_1 (by decide) rfl ?_
  refine ow_iconst (v := 0) C dX7_deaths_3 rfl ?_
  refine ow_istore (L' := [.ref p0, .int x1, .int x2, .int x3, .int x4, .int 0, .int 0]) C dX7_deaths_4 (by decide) rfl ?_
  exact Sat.mask hh (mk_y (mk_y (mk_y (mk_y (mk_y (mk_y (mk_y mk_0)))))))
def tr_X7_deaths : aw_T := fun as h Q => ∃ (p0 : Nat) (x1 : Int32) (x2 : Int32) (x3 : Int32) (x4 : Int32), as = [.ref p0, .int x1, .int x2, .int x3, .int x4] ∧ (∀ (K6 : Nat → Int32 → Int32 → Int32 → Int32 → Int32 → Int32 → aw_H → Prop), (∀ (p0 : Nat) (x1 : Int32) (x2 : Int32) (x3 : Int32) (x4 : Int32) (x5 : Int32) (x6 : Int32) (h : aw_H), sm_X7_deaths_6 K6 Q p0 x1 x2 x3 x4 x5 x6 h → K6 p0 x1 x2 x3 x4 x5 x6 h) → sm_X7_deaths_0 K6 Q p0 x1 x2 x3 x4 h)
theorem tq_X7_deaths {p0 : Nat} {x1 : Int32} {x2 : Int32} {x3 : Int32} {x4 : Int32} {h : aw_H} {Q : aw_R} : tr_X7_deaths [.ref p0, .int x1, .int x2, .int x3, .int x4] h Q ↔ (∀ (K6 : Nat → Int32 → Int32 → Int32 → Int32 → Int32 → Int32 → aw_H → Prop), (∀ (p0 : Nat) (x1 : Int32) (x2 : Int32) (x3 : Int32) (x4 : Int32) (x5 : Int32) (x6 : Int32) (h : aw_H), sm_X7_deaths_6 K6 Q p0 x1 x2 x3 x4 x5 x6 h → K6 p0 x1 x2 x3 x4 x5 x6 h) → sm_X7_deaths_0 K6 Q p0 x1 x2 x3 x4 h) := by
  constructor
  · rintro ⟨_, _, _, _, _, as0, hh⟩
    cases as0
    exact hh
  · intro hh
    exact ⟨_, _, _, _, _, rfl, hh⟩
theorem ct_X7_deaths (E : aw_F) : CT E yX7_deaths cX7_deaths 7 (some .int) 6 tr_X7_deaths := by
  refine ct_of (by decide) ?_
  intro X Q as h hE C Z hG
  subst hE
  obtain ⟨p0, x1, x2, x3, x4, rfl, hh⟩ := hG
  refine ⟨[.ref p0, .int x1, .int x2, .int x3, .int x4, Value.null, Value.null], rfl, Nat.le_of_ble_eq_true rfl, ?_⟩
  exact bl_X7_deaths_0 C Z p0 x1 x2 x3 x4 h (hh (fun (p0 : Nat) (x1 : Int32) (x2 : Int32) (x3 : Int32) (x4 : Int32) (x5 : Int32) (x6 : Int32) (h : aw_H) => Sat X 6 [.ref p0, .int x1, .int x2, .int x3, .int x4, .int x5, .int x6] [] h) (fun p0 x1 x2 x3 x4 x5 x6 h hh => bl_X7_deaths_6 C Z p0 x1 x2 x3 x4 x5 x6 h hh))
theorem cv_X7_deaths (E : aw_F) : CV E yX7_deaths cX7_deaths 7 (some .int) 6 4 6 tr_X7_deaths := ⟨ct_X7_deaths E, by decide, kw_817, kw_818, kw_527, kw_816, by decide +kernel, _, _, rfl⟩
theorem dX7_kinds_0 : decode cX7_kinds 0 = .ok (.iconst 0, 1) := by decide +kernel
theorem dX7_kinds_1 : decode cX7_kinds 1 = .ok (.istore 6, 2) := by decide +kernel
theorem dX7_kinds_3 : decode cX7_kinds 3 = .ok (.iconst 5, 1) := by decide +kernel
theorem dX7_kinds_4 : decode cX7_kinds 4 = .ok (.iconst 5, 1) := by decide +kernel
theorem dX7_kinds_5 : decode cX7_kinds 5 = .ok (.iload_n 1, 1) := by decide +kernel
theorem dX7_kinds_6 : decode cX7_kinds 6 = .ok (.imul, 1) := by decide +kernel
theorem dX7_kinds_7 : decode cX7_kinds 7 = .ok (.iadd, 1) := by decide +kernel
theorem dX7_kinds_8 : decode cX7_kinds 8 = .ok (.istore 7, 2) := by decide +kernel
theorem dX7_kinds_10 : decode cX7_kinds 10 = .ok (.iconst 0, 1) := by decide +kernel
theorem dX7_kinds_11 : decode cX7_kinds 11 = .ok (.istore 8, 2) := by decide +kernel
theorem dX7_kinds_13 : decode cX7_kinds 13 = .ok (.iload 8, 2) := by decide +kernel
theorem dX7_kinds_15 : decode cX7_kinds 15 = .ok (.iconst 5, 1) := by decide +kernel
theorem dX7_kinds_16 : decode cX7_kinds 16 = .ok (.if_icmp .ge 97, 3) := by decide +kernel
theorem dX7_kinds_19 : decode cX7_kinds 19 = .ok (.aload_n 0, 1) := by decide +kernel
theorem dX7_kinds_20 : decode cX7_kinds 20 = .ok (.invokevirtual 182, 3) := by decide +kernel
theorem dX7_kinds_23 : decode cX7_kinds 23 = .ok (.aload_n 0, 1) := by decide +kernel
theorem dX7_kinds_24 : decode cX7_kinds 24 = .ok (.getfield 7, 3) := by decide +kernel
theorem dX7_kinds_27 : decode cX7_kinds 27 = .ok (.sipush 1532, 3) := by decide +kernel
theorem dX7_kinds_30 : decode cX7_kinds 30 = .ok (.iload 7, 2) := by decide +kernel
theorem dX7_kinds_32 : decode cX7_kinds 32 = .ok (.iadd, 1) := by decide +kernel
theorem dX7_kinds_33 : decode cX7_kinds 33 = .ok (.iload 8, 2) := by decide +kernel
theorem dX7_kinds_35 : decode cX7_kinds 35 = .ok (.iastore, 1) := by decide +kernel
theorem dX7_kinds_36 : decode cX7_kinds 36 = .ok (.iload 8, 2) := by decide +kernel
theorem dX7_kinds_38 : decode cX7_kinds 38 = .ok (.invokestatic 54, 3) := by decide +kernel
theorem dX7_kinds_41 : decode cX7_kinds 41 = .ok (.aload_n 0, 1) := by decide +kernel
theorem dX7_kinds_42 : decode cX7_kinds 42 = .ok (.getfield 7, 3) := by decide +kernel
theorem dX7_kinds_45 : decode cX7_kinds 45 = .ok (.iload 7, 2) := by decide +kernel
theorem dX7_kinds_47 : decode cX7_kinds 47 = .ok (.iconst 1, 1) := by decide +kernel
theorem dX7_kinds_48 : decode cX7_kinds 48 = .ok (.iadd, 1) := by decide +kernel
theorem dX7_kinds_49 : decode cX7_kinds 49 = .ok (.iaload, 1) := by decide +kernel
theorem dX7_kinds_50 : decode cX7_kinds 50 = .ok (.aload_n 0, 1) := by decide +kernel
theorem dX7_kinds_51 : decode cX7_kinds 51 = .ok (.getfield 7, 3) := by decide +kernel
theorem dX7_kinds_54 : decode cX7_kinds 54 = .ok (.iload 7, 2) := by decide +kernel
theorem dX7_kinds_56 : decode cX7_kinds 56 = .ok (.iconst 2, 1) := by decide +kernel
theorem dX7_kinds_57 : decode cX7_kinds 57 = .ok (.iadd, 1) := by decide +kernel
theorem dX7_kinds_58 : decode cX7_kinds 58 = .ok (.iaload, 1) := by decide +kernel
theorem dX7_kinds_59 : decode cX7_kinds 59 = .ok (.aload_n 0, 1) := by decide +kernel
theorem dX7_kinds_60 : decode cX7_kinds 60 = .ok (.getfield 7, 3) := by decide +kernel
theorem dX7_kinds_63 : decode cX7_kinds 63 = .ok (.iload 7, 2) := by decide +kernel
theorem dX7_kinds_65 : decode cX7_kinds 65 = .ok (.iconst 3, 1) := by decide +kernel
theorem dX7_kinds_66 : decode cX7_kinds 66 = .ok (.iadd, 1) := by decide +kernel
theorem dX7_kinds_67 : decode cX7_kinds 67 = .ok (.iaload, 1) := by decide +kernel
theorem dX7_kinds_68 : decode cX7_kinds 68 = .ok (.invokestatic 58, 3) := by decide +kernel
theorem dX7_kinds_71 : decode cX7_kinds 71 = .ok (.istore 9, 2) := by decide +kernel
theorem dX7_kinds_73 : decode cX7_kinds 73 = .ok (.iload 6, 2) := by decide +kernel
theorem dX7_kinds_75 : decode cX7_kinds 75 = .ok (.iload 9, 2) := by decide +kernel
theorem dX7_kinds_77 : decode cX7_kinds 77 = .ok (.ifCond .eq 26, 3) := by decide +kernel
theorem dX7_kinds_80 : decode cX7_kinds 80 = .ok (.aload_n 0, 1) := by decide +kernel
theorem dX7_kinds_81 : decode cX7_kinds 81 = .ok (.sipush 1532, 3) := by decide +kernel
theorem dX7_kinds_84 : decode cX7_kinds 84 = .ok (.iload_n 2, 1) := by decide +kernel
theorem dX7_kinds_85 : decode cX7_kinds 85 = .ok (.iload_n 3, 1) := by decide +kernel
theorem dX7_kinds_86 : decode cX7_kinds 86 = .ok (.iload 4, 2) := by decide +kernel
theorem dX7_kinds_88 : decode cX7_kinds 88 = .ok (.iload 5, 2) := by decide +kernel
theorem dX7_kinds_90 : decode cX7_kinds 90 = .ok (.invokevirtual 204, 3) := by decide +kernel
theorem dX7_kinds_93 : decode cX7_kinds 93 = .ok (.ifCond .eq 10, 3) := by decide +kernel
theorem dX7_kinds_96 : decode cX7_kinds 96 = .ok (.iconst 1, 1) := by decide +kernel
theorem dX7_kinds_97 : decode cX7_kinds 97 = .ok (.iload 8, 2) := by decide +kernel
theorem dX7_kinds_99 : decode cX7_kinds 99 = .ok (.ishl, 1) := by decide +kernel
theorem dX7_kinds_100 : decode cX7_kinds 100 = .ok (.goto 4, 3) := by decide +kernel
theorem dX7_kinds_103 : decode cX7_kinds 103 = .ok (.iconst 0, 1) := by decide +kernel
theorem dX7_kinds_104 : decode cX7_kinds 104 = .ok (.ior, 1) := by decide +kernel
theorem dX7_kinds_105 : decode cX7_kinds 105 = .ok (.istore 6, 2) := by decide +kernel
theorem dX7_kinds_107 : decode cX7_kinds 107 = .ok (.iinc 8 1, 3) := by decide +kernel
theorem dX7_kinds_110 : decode cX7_kinds 110 = .ok (.goto (-97), 3) := by decide +kernel
theorem dX7_kinds_113 : decode cX7_kinds 113 = .ok (.iload 6, 2) := by decide +kernel
theorem dX7_kinds_115 : decode cX7_kinds 115 = .ok (.ireturn, 1) := by decide +kernel
def sm_X7_kinds_13 (K13 : Nat → Int32 → Int32 → Int32 → Int32 → Int32 → Int32 → Int32 → aw_H → Prop) (Q : aw_R) (p0 : Nat) (x2 : Int32) (x3 : Int32) (x4 : Int32) (x5 : Int32) (x6 : Int32) (x7 : Int32) (x8 : Int32) (h : aw_H) : Prop :=
  if 5 ≤ x8 then (Q (some (.int x6)) h) else (sv_O h p0 6 (tr_X7_beginTry [.ref p0] h fun r2 h1 => sr_V r2 <| sg_R h1 p0 6 0 fun q3 => ss_I h1 q3 (1532 + x7) x8 fun h4 => tr_X7_wiresOf [.int x8] h4 fun r6 h5 => sr_I r6 fun v7 => sg_R h5 p0 6 0 fun q8 => sa_I h5 q8 (x7 + 1) fun v9 => sg_R h5 p0 6 0 fun q10 => sa_I h5 q10 (x7 + 2) fun v11 => sg_R h5 p0 6 0 fun q12 => sa_I h5 q12 (x7 + 3) fun v13 => tr_X7_areUnlike [.int v7, .int v9, .int v11, .int v13] h5 fun r15 h14 => sr_I r15 fun v16 => if v16 = 0 then (K13 p0 x2 x3 x4 x5 (x6 ||| 0) x7 (x8 + 1) h14) else (sv_O h14 p0 6 (tr_X7_isToldIn [.ref p0, .int 1532, .int x2, .int x3, .int x4, .int x5] h14 fun r18 h17 => sr_I r18 fun v19 => if v19 = 0 then (K13 p0 x2 x3 x4 x5 (x6 ||| 0) x7 (x8 + 1) h17) else (K13 p0 x2 x3 x4 x5 (x6 ||| ((1 : Int32) <<< (x8 &&& 31))) x7 (x8 + 1) h17)))))
set_option maxRecDepth 100000 in
set_option maxHeartbeats 4000000 in
theorem bl_X7_kinds_13 {X : aw_X} {Q : aw_R} (C : aw_C X cX7_kinds RX7 10 6) (Z : aw_Z X cX7_kinds (some .int) Q) (p0 : Nat) (x2 : Int32) (x3 : Int32) (x4 : Int32) (x5 : Int32) (x6 : Int32) (x7 : Int32) (x8 : Int32) (h : aw_H) (hh : sm_X7_kinds_13 (fun (p0 : Nat) (x2 : Int32) (x3 : Int32) (x4 : Int32) (x5 : Int32) (x6 : Int32) (x7 : Int32) (x8 : Int32) (h : aw_H) => Sat X 13 [.ref p0, Value.null, .int x2, .int x3, .int x4, .int x5, .int x6, .int x7, .int x8, Value.null] [] h) Q p0 x2 x3 x4 x5 x6 x7 x8 h) : Sat X 13 [.ref p0, Value.null, .int x2, .int x3, .int x4, .int x5, .int x6, .int x7, .int x8, Value.null] [] h := by
  unfold sm_X7_kinds_13 at hh
  refine ow_iload C dX7_kinds_13 rfl ?_
  refine ow_iconst (v := 5) C dX7_kinds_15 rfl ?_
  refine ow_icmp_ge (tgt := 113) C dX7_kinds_16 (by decide) hh (fun hh => ?_) (fun hh => ?_)
  · skip
    refine ow_iload C dX7_kinds_113 rfl ?_
    exact ow_iret Z dX7_kinds_115 trivial hh
  · skip
    refine ow_aload_n C dX7_kinds_19 rfl rfl ?_
    refine ow_callV C (cv_X7_beginTry _) (Nat.le_of_ble_eq_true rfl) kw_752 dX7_kinds_20 (as := []) (st := []) rfl rfl (Nat.le_of_ble_eq_true rfl) hh (fun r2 h1 hq => ?_)
    obtain ⟨rfl, hh⟩ := sr_V_e hq
    show Sat X 23 [.ref p0, Value.null, .int x2, .int x3, .int x4, .int x5, .int x6, .int x7, .int x8, Value.null] [] h1
    refine ow_aload_n C dX7_kinds_23 rfl rfl ?_
    refine ow_getR (ci := 6) (k := 0) (T := TX7) C rfl igX7 (by decide) kw_533 dX7_kinds_24 hh (fun q3 hh => ?_)
    refine ow_sipush (v := 1532) C dX7_kinds_27 rfl ?_
    refine ow_iload C dX7_kinds_30 rfl ?_
    refine ow_iadd C dX7_kinds_32 ?_
    refine ow_iload C dX7_kinds_33 rfl ?_
    refine ow_iastore C dX7_kinds_35 hh (fun h4 hh => ?_)
    refine ow_iload C dX7_kinds_36 rfl ?_
    refine ow_callS C (cs_X7_wiresOf _) (Nat.le_of_ble_eq_true rfl) kw_567 dX7_kinds_38 (as := [.int x8]) (st := []) rfl rfl (Nat.le_of_ble_eq_true rfl) hh (fun r6 h5 hq => ?_)
    obtain ⟨v7, rfl, hh⟩ := sr_I_e hq
    show Sat X 41 [.ref p0, Value.null, .int x2, .int x3, .int x4, .int x5, .int x6, .int x7, .int x8, Value.null] [.int v7] h5
    refine ow_aload_n C dX7_kinds_41 rfl rfl ?_
    refine ow_getR (ci := 6) (k := 0) (T := TX7) C rfl igX7 (by decide) kw_533 dX7_kinds_42 hh (fun q8 hh => ?_)
    refine ow_iload C dX7_kinds_45 rfl ?_
    refine ow_iconst (v := 1) C dX7_kinds_47 rfl ?_
    refine ow_iadd C dX7_kinds_48 ?_
    refine ow_iaload C dX7_kinds_49 hh (fun v9 hh => ?_)
    refine ow_aload_n C dX7_kinds_50 rfl rfl ?_
    refine ow_getR (ci := 6) (k := 0) (T := TX7) C rfl igX7 (by decide) kw_533 dX7_kinds_51 hh (fun q10 hh => ?_)
    refine ow_iload C dX7_kinds_54 rfl ?_
    refine ow_iconst (v := 2) C dX7_kinds_56 rfl ?_
    refine ow_iadd C dX7_kinds_57 ?_
    refine ow_iaload C dX7_kinds_58 hh (fun v11 hh => ?_)
    refine ow_aload_n C dX7_kinds_59 rfl rfl ?_
    refine ow_getR (ci := 6) (k := 0) (T := TX7) C rfl igX7 (by decide) kw_533 dX7_kinds_60 hh (fun q12 hh => ?_)
    refine ow_iload C dX7_kinds_63 rfl ?_
    refine ow_iconst (v := 3) C dX7_kinds_65 rfl ?_
    refine ow_iadd C dX7_kinds_66 ?_
    refine ow_iaload C dX7_kinds_67 hh (fun v13 hh => ?_)
    refine ow_callS C (cs_X7_areUnlike _) (Nat.le_of_ble_eq_true rfl) kw_568 dX7_kinds_68 (as := [.int v7, .int v9, .int v11, .int v13]) (st := []) rfl rfl (Nat.le_of_ble_eq_true rfl) hh (fun r15 h14 hq => ?_)
    obtain ⟨v16, rfl, hh⟩ := sr_I_e hq
    show Sat X 71 [.ref p0, Value.null, .int x2, .int x3, .int x4, .int x5, .int x6, .int x7, .int x8, Value.null] [.int v16] h14
    refine ow_istore (L' := [.ref p0, Value.null, .int x2, .int x3, .int x4, .int x5, .int x6, .int x7, .int x8, .int v16]) C dX7_kinds_71 (by decide) rfl ?_
    refine ow_iload C dX7_kinds_73 rfl ?_
    refine ow_iload C dX7_kinds_75 rfl ?_
    refine ow_if_eq (tgt := 103) C dX7_kinds_77 (by decide) hh (fun hh => ?_) (fun hh => ?_)
    · skip
      refine ow_iconst (v := 0) C dX7_kinds_103 rfl ?_
      refine ow_ior C dX7_kinds_104 ?_
      refine ow_istore (L' := [.ref p0, Value.null, .int x2, .int x3, .int x4, .int x5, .int (x6 ||| 0), .int x7, .int x8, .int v16]) C dX7_kinds_105 (by decide) rfl ?_
      refine ow_iinc (v := x8 + 1) (L' := [.ref p0, Value.null, .int x2, .int x3, .int x4, .int x5, .int (x6 ||| 0), .int x7, .int (x8 + 1), .int v16]) C dX7_kinds_107 rfl rfl (by decide) rfl ?_
      refine ow_goto (tgt := 13) C dX7_kinds_110 (by decide) ?_
      exact Sat.mask hh (mk_y (mk_n (mk_y (mk_y (mk_y (mk_y (mk_y (mk_y (mk_y (mk_n mk_0))))))))))
    · skip
      refine ow_aload_n C dX7_kinds_80 rfl rfl ?_
      refine ow_sipush (v := 1532) C dX7_kinds_81 rfl ?_
      refine ow_iload_n C dX7_kinds_84 rfl rfl ?_
      refine ow_iload_n C dX7_kinds_85 rfl rfl ?_
      refine ow_iload C dX7_kinds_86 rfl ?_
      refine ow_iload C dX7_kinds_88 rfl ?_
      refine ow_callV C (cv_X7_isToldIn _) (Nat.le_of_ble_eq_true rfl) kw_815 dX7_kinds_90 (as := [.int 1532, .int x2, .int x3, .int x4, .int x5]) (st := [.int x6]) rfl rfl (Nat.le_of_ble_eq_true rfl) hh (fun r18 h17 hq => ?_)
      obtain ⟨v19, rfl, hh⟩ := sr_I_e hq
      show Sat X 93 [.ref p0, Value.null, .int x2, .int x3, .int x4, .int x5, .int x6, .int x7, .int x8, .int v16] [.int v19, .int x6] h17
      refine ow_if_eq (tgt := 103) C dX7_kinds_93 (by decide) hh (fun hh => ?_) (fun hh => ?_)
      · skip
        refine ow_iconst (v := 0) C dX7_kinds_103 rfl ?_
        refine ow_ior C dX7_kinds_104 ?_
        refine ow_istore (L' := [.ref p0, Value.null, .int x2, .int x3, .int x4, .int x5, .int (x6 ||| 0), .int x7, .int x8, .int v16]) C dX7_kinds_105 (by decide) rfl ?_
        refine ow_iinc (v := x8 + 1) (L' := [.ref p0, Value.null, .int x2, .int x3, .int x4, .int x5, .int (x6 ||| 0), .int x7, .int (x8 + 1), .int v16]) C dX7_kinds_107 rfl rfl (by decide) rfl ?_
        refine ow_goto (tgt := 13) C dX7_kinds_110 (by decide) ?_
        exact Sat.mask hh (mk_y (mk_n (mk_y (mk_y (mk_y (mk_y (mk_y (mk_y (mk_y (mk_n mk_0))))))))))
      · skip
        refine ow_iconst (v := 1) C dX7_kinds_96 rfl ?_
        refine ow_iload C dX7_kinds_97 rfl ?_
        refine ow_ishl C dX7_kinds_99 ?_
        refine ow_goto (tgt := 104) C dX7_kinds_100 (by decide) ?_
        refine ow_ior C dX7_kinds_104 ?_
        refine ow_istore (L' := [.ref p0, Value.null, .int x2, .int x3, .int x4, .int x5, .int (x6 ||| ((1 : Int32) <<< (x8 &&& 31))), .int x7, .int x8, .int v16]) C dX7_kinds_105 (by decide) rfl ?_
        refine ow_iinc (v := x8 + 1) (L' := [.ref p0, Value.null, .int x2, .int x3, .int x4, .int x5, .int (x6 ||| ((1 : Int32) <<< (x8 &&& 31))), .int x7, .int (x8 + 1), .int v16]) C dX7_kinds_107 rfl rfl (by decide) rfl ?_
        refine ow_goto (tgt := 13) C dX7_kinds_110 (by decide) ?_
        exact Sat.mask hh (mk_y (mk_n (mk_y (mk_y (mk_y (mk_y (mk_y (mk_y (mk_y (mk_n mk_0))))))))))
def sm_X7_kinds_0 (K13 : Nat → Int32 → Int32 → Int32 → Int32 → Int32 → Int32 → Int32 → aw_H → Prop) (Q : aw_R) (p0 : Nat) (x1 : Int32) (x2 : Int32) (x3 : Int32) (x4 : Int32) (x5 : Int32) (h : aw_H) : Prop :=
  K13 p0 x2 x3 x4 x5 0 (5 + (5 * x1)) 0 h
set_option maxRecDepth 100000 in
set_option maxHeartbeats 4000000 in
theorem bl_X7_kinds_0 {X : aw_X} {Q : aw_R} (C : aw_C X cX7_kinds RX7 10 6) (Z : aw_Z X cX7_kinds (some .int) Q) (p0 : Nat) (x1 : Int32) (x2 : Int32) (x3 : Int32) (x4 : Int32) (x5 : Int32) (h : aw_H) (hh : sm_X7_kinds_0 (fun (p0 : Nat) (x2 : Int32) (x3 : Int32) (x4 : Int32) (x5 : Int32) (x6 : Int32) (x7 : Int32) (x8 : Int32) (h : aw_H) => Sat X 13 [.ref p0, Value.null, .int x2, .int x3, .int x4, .int x5, .int x6, .int x7, .int x8, Value.null] [] h) Q p0 x1 x2 x3 x4 x5 h) : Sat X 0 [.ref p0, .int x1, .int x2, .int x3, .int x4, .int x5, Value.null, Value.null, Value.null, Value.null] [] h := by
  unfold sm_X7_kinds_0 at hh
  refine ow_iconst (v := 0) C dX7_kinds_0 rfl ?_
  refine ow_istore (L' := [.ref p0, .int x1, .int x2, .int x3, .int x4, .int x5, .int 0, Value.null, Value.null, Value.null]) C dX7_kinds_1 (by decide) rfl ?_
  refine ow_iconst (v := 5) C dX7_kinds_3 rfl ?_
  refine ow_iconst (v := 5) C dX7_kinds_4 rfl ?_
  refine ow_iload_n C dX7_kinds_5 rfl rfl ?_
  refine ow_imul C dX7_kinds_6 ?_
  refine ow_iadd C dX7_kinds_7 ?_
  refine ow_istore (L' := [.ref p0, .int x1, .int x2, .int x3, .int x4, .int x5, .int 0, .int (5 + (5 * x1)), Value.null, Value.null]) C dX7_kinds_8 (by decide) rfl ?_
  refine ow_iconst (v := 0) C dX7_kinds_10 rfl ?_
  refine ow_istore (L' := [.ref p0, .int x1, .int x2, .int x3, .int x4, .int x5, .int 0, .int (5 + (5 * x1)), .int 0, Value.null]) C dX7_kinds_11 (by decide) rfl ?_
  exact Sat.mask hh (mk_y (mk_n (mk_y (mk_y (mk_y (mk_y (mk_y (mk_y (mk_y (mk_n mk_0))))))))))
def tr_X7_kinds : aw_T := fun as h Q => ∃ (p0 : Nat) (x1 : Int32) (x2 : Int32) (x3 : Int32) (x4 : Int32) (x5 : Int32), as = [.ref p0, .int x1, .int x2, .int x3, .int x4, .int x5] ∧ (∀ (K13 : Nat → Int32 → Int32 → Int32 → Int32 → Int32 → Int32 → Int32 → aw_H → Prop), (∀ (p0 : Nat) (x2 : Int32) (x3 : Int32) (x4 : Int32) (x5 : Int32) (x6 : Int32) (x7 : Int32) (x8 : Int32) (h : aw_H), sm_X7_kinds_13 K13 Q p0 x2 x3 x4 x5 x6 x7 x8 h → K13 p0 x2 x3 x4 x5 x6 x7 x8 h) → sm_X7_kinds_0 K13 Q p0 x1 x2 x3 x4 x5 h)
theorem tq_X7_kinds {p0 : Nat} {x1 : Int32} {x2 : Int32} {x3 : Int32} {x4 : Int32} {x5 : Int32} {h : aw_H} {Q : aw_R} : tr_X7_kinds [.ref p0, .int x1, .int x2, .int x3, .int x4, .int x5] h Q ↔ (∀ (K13 : Nat → Int32 → Int32 → Int32 → Int32 → Int32 → Int32 → Int32 → aw_H → Prop), (∀ (p0 : Nat) (x2 : Int32) (x3 : Int32) (x4 : Int32) (x5 : Int32) (x6 : Int32) (x7 : Int32) (x8 : Int32) (h : aw_H), sm_X7_kinds_13 K13 Q p0 x2 x3 x4 x5 x6 x7 x8 h → K13 p0 x2 x3 x4 x5 x6 x7 x8 h) → sm_X7_kinds_0 K13 Q p0 x1 x2 x3 x4 x5 h) := by
  constructor
  · rintro ⟨_, _, _, _, _, _, as0, hh⟩
    cases as0
    exact hh
  · intro hh
    exact ⟨_, _, _, _, _, _, rfl, hh⟩
theorem ct_X7_kinds (E : aw_F) : CT E yX7_kinds cX7_kinds 10 (some .int) 6 tr_X7_kinds := by
  refine ct_of (by decide) ?_
  intro X Q as h hE C Z hG
  subst hE
  obtain ⟨p0, x1, x2, x3, x4, x5, rfl, hh⟩ := hG
  refine ⟨[.ref p0, .int x1, .int x2, .int x3, .int x4, .int x5, Value.null, Value.null, Value.null, Value.null], rfl, Nat.le_of_ble_eq_true rfl, ?_⟩
  exact bl_X7_kinds_0 C Z p0 x1 x2 x3 x4 x5 h (hh (fun (p0 : Nat) (x2 : Int32) (x3 : Int32) (x4 : Int32) (x5 : Int32) (x6 : Int32) (x7 : Int32) (x8 : Int32) (h : aw_H) => Sat X 13 [.ref p0, Value.null, .int x2, .int x3, .int x4, .int x5, .int x6, .int x7, .int x8, Value.null] [] h) (fun p0 x2 x3 x4 x5 x6 x7 x8 h hh => bl_X7_kinds_13 C Z p0 x2 x3 x4 x5 x6 x7 x8 h hh))
theorem cv_X7_kinds (E : aw_F) : CV E yX7_kinds cX7_kinds 10 (some .int) 6 5 6 tr_X7_kinds := ⟨ct_X7_kinds E, by decide, kw_820, kw_821, kw_527, kw_819, by decide +kernel, _, _, rfl⟩
theorem dX7_ups_0 : decode cX7_ups 0 = .ok (.aload_n 0, 1) := by decide +kernel
theorem dX7_ups_1 : decode cX7_ups 1 = .ok (.invokevirtual 167, 3) := by decide +kernel
theorem dX7_ups_4 : decode cX7_ups 4 = .ok (.iconst 1, 1) := by decide +kernel
theorem dX7_ups_5 : decode cX7_ups 5 = .ok (.istore 5, 2) := by decide +kernel
theorem dX7_ups_7 : decode cX7_ups 7 = .ok (.iload 5, 2) := by decide +kernel
theorem dX7_ups_9 : decode cX7_ups 9 = .ok (.sipush 200, 3) := by decide +kernel
theorem dX7_ups_12 : decode cX7_ups 12 = .ok (.if_icmp .gt 100, 3) := by decide +kernel
theorem dX7_ups_15 : decode cX7_ups 15 = .ok (.iconst 1, 1) := by decide +kernel
theorem dX7_ups_16 : decode cX7_ups 16 = .ok (.istore 6, 2) := by decide +kernel
theorem dX7_ups_18 : decode cX7_ups 18 = .ok (.iconst 0, 1) := by decide +kernel
theorem dX7_ups_19 : decode cX7_ups 19 = .ok (.istore 7, 2) := by decide +kernel
theorem dX7_ups_21 : decode cX7_ups 21 = .ok (.iload 7, 2) := by decide +kernel
theorem dX7_ups_23 : decode cX7_ups 23 = .ok (.iload 4, 2) := by decide +kernel
theorem dX7_ups_25 : decode cX7_ups 25 = .ok (.if_icmp .ge 73, 3) := by decide +kernel
theorem dX7_ups_28 : decode cX7_ups 28 = .ok (.iload 6, 2) := by decide +kernel
theorem dX7_ups_30 : decode cX7_ups 30 = .ok (.ifCond .eq 68, 3) := by decide +kernel
theorem dX7_ups_33 : decode cX7_ups 33 = .ok (.iload_n 1, 1) := by decide +kernel
theorem dX7_ups_34 : decode cX7_ups 34 = .ok (.iload 7, 2) := by decide +kernel
theorem dX7_ups_36 : decode cX7_ups 36 = .ok (.iadd, 1) := by decide +kernel
theorem dX7_ups_37 : decode cX7_ups 37 = .ok (.istore 8, 2) := by decide +kernel
theorem dX7_ups_39 : decode cX7_ups 39 = .ok (.iconst 0, 1) := by decide +kernel
theorem dX7_ups_40 : decode cX7_ups 40 = .ok (.istore 9, 2) := by decide +kernel
theorem dX7_ups_42 : decode cX7_ups 42 = .ok (.iload 9, 2) := by decide +kernel
theorem dX7_ups_44 : decode cX7_ups 44 = .ok (.iload 5, 2) := by decide +kernel
theorem dX7_ups_46 : decode cX7_ups 46 = .ok (.if_icmp .ge 18, 3) := by decide +kernel
theorem dX7_ups_49 : decode cX7_ups 49 = .ok (.aload_n 0, 1) := by decide +kernel
theorem dX7_ups_50 : decode cX7_ups 50 = .ok (.getfield 26, 3) := by decide +kernel
theorem dX7_ups_53 : decode cX7_ups 53 = .ok (.iload 8, 2) := by decide +kernel
theorem dX7_ups_55 : decode cX7_ups 55 = .ok (.iaload, 1) := by decide +kernel
theorem dX7_ups_56 : decode cX7_ups 56 = .ok (.istore 8, 2) := by decide +kernel
theorem dX7_ups_58 : decode cX7_ups 58 = .ok (.iinc 9 1, 3) := by decide +kernel
theorem dX7_ups_61 : decode cX7_ups 61 = .ok (.goto (-19), 3) := by decide +kernel
theorem dX7_ups_64 : decode cX7_ups 64 = .ok (.iload 8, 2) := by decide +kernel
theorem dX7_ups_66 : decode cX7_ups 66 = .ok (.i2l, 1) := by decide +kernel
theorem dX7_ups_67 : decode cX7_ups 67 = .ok (.aload_n 0, 1) := by decide +kernel
theorem dX7_ups_68 : decode cX7_ups 68 = .ok (.getfield 16, 3) := by decide +kernel
theorem dX7_ups_71 : decode cX7_ups 71 = .ok (.bipush 24, 2) := by decide +kernel
theorem dX7_ups_73 : decode cX7_ups 73 = .ok (.iload_n 2, 1) := by decide +kernel
theorem dX7_ups_74 : decode cX7_ups 74 = .ok (.imul, 1) := by decide +kernel
theorem dX7_ups_75 : decode cX7_ups 75 = .ok (.iload_n 3, 1) := by decide +kernel
theorem dX7_ups_76 : decode cX7_ups 76 = .ok (.iadd, 1) := by decide +kernel
theorem dX7_ups_77 : decode cX7_ups 77 = .ok (.iload 7, 2) := by decide +kernel
theorem dX7_ups_79 : decode cX7_ups 79 = .ok (.iadd, 1) := by decide +kernel
theorem dX7_ups_80 : decode cX7_ups 80 = .ok (.laload, 1) := by decide +kernel
theorem dX7_ups_81 : decode cX7_ups 81 = .ok (.lcmp, 1) := by decide +kernel
theorem dX7_ups_82 : decode cX7_ups 82 = .ok (.ifCond .ne 7, 3) := by decide +kernel
theorem dX7_ups_85 : decode cX7_ups 85 = .ok (.iconst 1, 1) := by decide +kernel
theorem dX7_ups_86 : decode cX7_ups 86 = .ok (.goto 4, 3) := by decide +kernel
theorem dX7_ups_89 : decode cX7_ups 89 = .ok (.iconst 0, 1) := by decide +kernel
theorem dX7_ups_90 : decode cX7_ups 90 = .ok (.istore 6, 2) := by decide +kernel
theorem dX7_ups_92 : decode cX7_ups 92 = .ok (.iinc 7 1, 3) := by decide +kernel
theorem dX7_ups_95 : decode cX7_ups 95 = .ok (.goto (-74), 3) := by decide +kernel
theorem dX7_ups_98 : decode cX7_ups 98 = .ok (.iload 6, 2) := by decide +kernel
theorem dX7_ups_100 : decode cX7_ups 100 = .ok (.ifCond .eq 6, 3) := by decide +kernel
theorem dX7_ups_103 : decode cX7_ups 103 = .ok (.iload 5, 2) := by decide +kernel
theorem dX7_ups_105 : decode cX7_ups 105 = .ok (.ireturn, 1) := by decide +kernel
theorem dX7_ups_106 : decode cX7_ups 106 = .ok (.iinc 5 1, 3) := by decide +kernel
theorem dX7_ups_109 : decode cX7_ups 109 = .ok (.goto (-102), 3) := by decide +kernel
theorem dX7_ups_112 : decode cX7_ups 112 = .ok (.bipush (-4), 2) := by decide +kernel
theorem dX7_ups_114 : decode cX7_ups 114 = .ok (.ireturn, 1) := by decide +kernel
def sm_X7_ups_42 (K7 : Nat → Int32 → Int32 → Int32 → Int32 → Int32 → aw_H → Prop) (K21 : Nat → Int32 → Int32 → Int32 → Int32 → Int32 → Int32 → Int32 → aw_H → Prop) (K42 : Nat → Int32 → Int32 → Int32 → Int32 → Int32 → Int32 → Int32 → Int32 → aw_H → Prop) (Q : aw_R) (p0 : Nat) (x1 : Int32) (x2 : Int32) (x3 : Int32) (x4 : Int32) (x5 : Int32) (x7 : Int32) (x8 : Int32) (x9 : Int32) (h : aw_H) : Prop :=
  if x5 ≤ x9 then (sg_R h p0 6 4 fun q1 => sa_L h q1 (((24 * x2) + x3) + x7) fun u2 => if ¬ (lg_cmp (Int32.toInt64 x8) u2) = 0 then (K21 p0 x1 x2 x3 x4 x5 0 (x7 + 1) h) else (K21 p0 x1 x2 x3 x4 x5 1 (x7 + 1) h)) else (sg_R h p0 6 7 fun q3 => sa_I h q3 x8 fun v4 => K42 p0 x1 x2 x3 x4 x5 x7 v4 (x9 + 1) h)
set_option maxRecDepth 100000 in
set_option maxHeartbeats 4000000 in
theorem bl_X7_ups_42 {X : aw_X} {Q : aw_R} (C : aw_C X cX7_ups RX7 10 6) (Z : aw_Z X cX7_ups (some .int) Q) (p0 : Nat) (x1 : Int32) (x2 : Int32) (x3 : Int32) (x4 : Int32) (x5 : Int32) (x7 : Int32) (x8 : Int32) (x9 : Int32) (h : aw_H) (hh : sm_X7_ups_42 (fun (p0 : Nat) (x1 : Int32) (x2 : Int32) (x3 : Int32) (x4 : Int32) (x5 : Int32) (h : aw_H) => Sat X 7 [.ref p0, .int x1, .int x2, .int x3, .int x4, .int x5, Value.null, Value.null, Value.null, Value.null] [] h) (fun (p0 : Nat) (x1 : Int32) (x2 : Int32) (x3 : Int32) (x4 : Int32) (x5 : Int32) (x6 : Int32) (x7 : Int32) (h : aw_H) => Sat X 21 [.ref p0, .int x1, .int x2, .int x3, .int x4, .int x5, .int x6, .int x7, Value.null, Value.null] [] h) (fun (p0 : Nat) (x1 : Int32) (x2 : Int32) (x3 : Int32) (x4 : Int32) (x5 : Int32) (x7 : Int32) (x8 : Int32) (x9 : Int32) (h : aw_H) => Sat X 42 [.ref p0, .int x1, .int x2, .int x3, .int x4, .int x5, Value.null, .int x7, .int x8, .int x9] [] h) Q p0 x1 x2 x3 x4 x5 x7 x8 x9 h) : Sat X 42 [.ref p0, .int x1, .int x2, .int x3, .int x4, .int x5, Value.null, .int x7, .int x8, .int x9] [] h := by
  unfold sm_X7_ups_42 at hh
  refine ow_iload C dX7_ups_42 rfl ?_
  refine ow_iload C dX7_ups_44 rfl ?_
  refine ow_icmp_ge (tgt := 64) C dX7_ups_46 (by decide) hh (fun hh => ?_) (fun hh => ?_)
  · skip
    refine ow_iload C dX7_ups_64 rfl ?_
    refine ow_i2l C dX7_ups_66 ?_
    refine ow_aload_n C dX7_ups_67 rfl rfl ?_
    refine ow_getR (ci := 6) (k := 4) (T := TX7) C rfl igX7 (by decide) kw_811 dX7_ups_68 hh (fun q1 hh => ?_)
    refine ow_bipush (v := 24) C dX7_ups_71 rfl ?_
    refine ow_iload_n C dX7_ups_73 rfl rfl ?_
    refine ow_imul C dX7_ups_74 ?_
    refine ow_iload_n C dX7_ups_75 rfl rfl ?_
    refine ow_iadd C dX7_ups_76 ?_
    refine ow_iload C dX7_ups_77 rfl ?_
    refine ow_iadd C dX7_ups_79 ?_
    refine ow_laload C dX7_ups_80 hh (fun u2 hh => ?_)
    refine ow_lcmp C dX7_ups_81 ?_
    refine ow_if_ne (tgt := 89) C dX7_ups_82 (by decide) hh (fun hh => ?_) (fun hh => ?_)
    · skip
      refine ow_iconst (v := 0) C dX7_ups_89 rfl ?_
      refine ow_istore (L' := [.ref p0, .int x1, .int x2, .int x3, .int x4, .int x5, .int 0, .int x7, .int x8, .int x9]) C dX7_ups_90 (by decide) rfl ?_
      refine ow_iinc (v := x7 + 1) (L' := [.ref p0, .int x1, .int x2, .int x3, .int x4, .int x5, .int 0, .int (x7 + 1), .int x8, .int x9]) C dX7_ups_92 rfl rfl (by decide) rfl ?_
      refine ow_goto (tgt := 21) C dX7_ups_95 (by decide) ?_
      exact Sat.mask hh (mk_y (mk_y (mk_y (mk_y (mk_y (mk_y (mk_y (mk_y (mk_n (mk_n mk_0))))))))))
    · skip
      refine ow_iconst (v := 1) C dX7_ups_85 rfl ?_
      refine ow_goto (tgt := 90) C dX7_ups_86 (by decide) ?_
      refine ow_istore (L' := [.ref p0, .int x1, .int x2, .int x3, .int x4, .int x5, .int 1, .int x7, .int x8, .int x9]) C dX7_ups_90 (by decide) rfl ?_
      refine ow_iinc (v := x7 + 1) (L' := [.ref p0, .int x1, .int x2, .int x3, .int x4, .int x5, .int 1, .int (x7 + 1), .int x8, .int x9]) C dX7_ups_92 rfl rfl (by decide) rfl ?_
      refine ow_goto (tgt := 21) C dX7_ups_95 (by decide) ?_
      exact Sat.mask hh (mk_y (mk_y (mk_y (mk_y (mk_y (mk_y (mk_y (mk_y (mk_n (mk_n mk_0))))))))))
  · skip
    refine ow_aload_n C dX7_ups_49 rfl rfl ?_
    refine ow_getR (ci := 6) (k := 7) (T := TX7) C rfl igX7 (by decide) kw_706 dX7_ups_50 hh (fun q3 hh => ?_)
    refine ow_iload C dX7_ups_53 rfl ?_
    refine ow_iaload C dX7_ups_55 hh (fun v4 hh => ?_)
    refine ow_istore (L' := [.ref p0, .int x1, .int x2, .int x3, .int x4, .int x5, Value.null, .int x7, .int v4, .int x9]) C dX7_ups_56 (by decide) rfl ?_
    refine ow_iinc (v := x9 + 1) (L' := [.ref p0, .int x1, .int x2, .int x3, .int x4, .int x5, Value.null, .int x7, .int v4, .int (x9 + 1)]) C dX7_ups_58 rfl rfl (by decide) rfl ?_
    refine ow_goto (tgt := 42) C dX7_ups_61 (by decide) ?_
    exact Sat.mask hh (mk_y (mk_y (mk_y (mk_y (mk_y (mk_y (mk_n (mk_y (mk_y (mk_y mk_0))))))))))
def sm_X7_ups_21 (K7 : Nat → Int32 → Int32 → Int32 → Int32 → Int32 → aw_H → Prop) (K21 : Nat → Int32 → Int32 → Int32 → Int32 → Int32 → Int32 → Int32 → aw_H → Prop) (K42 : Nat → Int32 → Int32 → Int32 → Int32 → Int32 → Int32 → Int32 → Int32 → aw_H → Prop) (Q : aw_R) (p0 : Nat) (x1 : Int32) (x2 : Int32) (x3 : Int32) (x4 : Int32) (x5 : Int32) (x6 : Int32) (x7 : Int32) (h : aw_H) : Prop :=
  if x4 ≤ x7 then (if x6 = 0 then (K7 p0 x1 x2 x3 x4 (x5 + 1) h) else (Q (some (.int x5)) h)) else (if x6 = 0 then (if x6 = 0 then (K7 p0 x1 x2 x3 x4 (x5 + 1) h) else (Q (some (.int x5)) h)) else (K42 p0 x1 x2 x3 x4 x5 x7 (x1 + x7) 0 h))
set_option maxRecDepth 100000 in
set_option maxHeartbeats 4000000 in
theorem bl_X7_ups_21 {X : aw_X} {Q : aw_R} (C : aw_C X cX7_ups RX7 10 6) (Z : aw_Z X cX7_ups (some .int) Q) (p0 : Nat) (x1 : Int32) (x2 : Int32) (x3 : Int32) (x4 : Int32) (x5 : Int32) (x6 : Int32) (x7 : Int32) (h : aw_H) (hh : sm_X7_ups_21 (fun (p0 : Nat) (x1 : Int32) (x2 : Int32) (x3 : Int32) (x4 : Int32) (x5 : Int32) (h : aw_H) => Sat X 7 [.ref p0, .int x1, .int x2, .int x3, .int x4, .int x5, Value.null, Value.null, Value.null, Value.null] [] h) (fun (p0 : Nat) (x1 : Int32) (x2 : Int32) (x3 : Int32) (x4 : Int32) (x5 : Int32) (x6 : Int32) (x7 : Int32) (h : aw_H) => Sat X 21 [.ref p0, .int x1, .int x2, .int x3, .int x4, .int x5, .int x6, .int x7, Value.null, Value.null] [] h) (fun (p0 : Nat) (x1 : Int32) (x2 : Int32) (x3 : Int32) (x4 : Int32) (x5 : Int32) (x7 : Int32) (x8 : Int32) (x9 : Int32) (h : aw_H) => Sat X 42 [.ref p0, .int x1, .int x2, .int x3, .int x4, .int x5, Value.null, .int x7, .int x8, .int x9] [] h) Q p0 x1 x2 x3 x4 x5 x6 x7 h) : Sat X 21 [.ref p0, .int x1, .int x2, .int x3, .int x4, .int x5, .int x6, .int x7, Value.null, Value.null] [] h := by
  unfold sm_X7_ups_21 at hh
  refine ow_iload C dX7_ups_21 rfl ?_
  refine ow_iload C dX7_ups_23 rfl ?_
  refine ow_icmp_ge (tgt := 98) C dX7_ups_25 (by decide) hh (fun hh => ?_) (fun hh => ?_)
  · skip
    refine ow_iload C dX7_ups_98 rfl ?_
    refine ow_if_eq (tgt := 106) C dX7_ups_100 (by decide) hh (fun hh => ?_) (fun hh => ?_)
    · skip
      refine ow_iinc (v := x5 + 1) (L' := [.ref p0, .int x1, .int x2, .int x3, .int x4, .int (x5 + 1), .int x6, .int x7, Value.null, Value.null]) C dX7_ups_106 rfl rfl (by decide) rfl ?_
      refine ow_goto (tgt := 7) C dX7_ups_109 (by decide) ?_
      exact Sat.mask hh (mk_y (mk_y (mk_y (mk_y (mk_y (mk_y (mk_n (mk_n (mk_n (mk_n mk_0))))))))))
    · skip
      refine ow_iload C dX7_ups_103 rfl ?_
      exact ow_iret Z dX7_ups_105 trivial hh
  · skip
    refine ow_iload C dX7_ups_28 rfl ?_
    refine ow_if_eq (tgt := 98) C dX7_ups_30 (by decide) hh (fun hh => ?_) (fun hh => ?_)
    · skip
      refine ow_iload C dX7_ups_98 rfl ?_
      refine ow_if_eq (tgt := 106) C dX7_ups_100 (by decide) hh (fun hh => ?_) (fun hh => ?_)
      · skip
        refine ow_iinc (v := x5 + 1) (L' := [.ref p0, .int x1, .int x2, .int x3, .int x4, .int (x5 + 1), .int x6, .int x7, Value.null, Value.null]) C dX7_ups_106 rfl rfl (by decide) rfl ?_
        refine ow_goto (tgt := 7) C dX7_ups_109 (by decide) ?_
        exact Sat.mask hh (mk_y (mk_y (mk_y (mk_y (mk_y (mk_y (mk_n (mk_n (mk_n (mk_n mk_0))))))))))
      · skip
        refine ow_iload C dX7_ups_103 rfl ?_
        exact ow_iret Z dX7_ups_105 trivial hh
    · skip
      refine ow_iload_n C dX7_ups_33 rfl rfl ?_
      refine ow_iload C dX7_ups_34 rfl ?_
      refine ow_iadd C dX7_ups_36 ?_
      refine ow_istore (L' := [.ref p0, .int x1, .int x2, .int x3, .int x4, .int x5, .int x6, .int x7, .int (x1 + x7), Value.null]) C dX7_ups_37 (by decide) rfl ?_
      refine ow_iconst (v := 0) C dX7_ups_39 rfl ?_
      refine ow_istore (L' := [.ref p0, .int x1, .int x2, .int x3, .int x4, .int x5, .int x6, .int x7, .int (x1 + x7), .int 0]) C dX7_ups_40 (by decide) rfl ?_
      exact Sat.mask hh (mk_y (mk_y (mk_y (mk_y (mk_y (mk_y (mk_n (mk_y (mk_y (mk_y mk_0))))))))))
def sm_X7_ups_7 (K7 : Nat → Int32 → Int32 → Int32 → Int32 → Int32 → aw_H → Prop) (K21 : Nat → Int32 → Int32 → Int32 → Int32 → Int32 → Int32 → Int32 → aw_H → Prop) (K42 : Nat → Int32 → Int32 → Int32 → Int32 → Int32 → Int32 → Int32 → Int32 → aw_H → Prop) (Q : aw_R) (p0 : Nat) (x1 : Int32) (x2 : Int32) (x3 : Int32) (x4 : Int32) (x5 : Int32) (h : aw_H) : Prop :=
  if 200 < x5 then (Q (some (.int ((-4)))) h) else (K21 p0 x1 x2 x3 x4 x5 1 0 h)
set_option maxRecDepth 100000 in
set_option maxHeartbeats 4000000 in
theorem bl_X7_ups_7 {X : aw_X} {Q : aw_R} (C : aw_C X cX7_ups RX7 10 6) (Z : aw_Z X cX7_ups (some .int) Q) (p0 : Nat) (x1 : Int32) (x2 : Int32) (x3 : Int32) (x4 : Int32) (x5 : Int32) (h : aw_H) (hh : sm_X7_ups_7 (fun (p0 : Nat) (x1 : Int32) (x2 : Int32) (x3 : Int32) (x4 : Int32) (x5 : Int32) (h : aw_H) => Sat X 7 [.ref p0, .int x1, .int x2, .int x3, .int x4, .int x5, Value.null, Value.null, Value.null, Value.null] [] h) (fun (p0 : Nat) (x1 : Int32) (x2 : Int32) (x3 : Int32) (x4 : Int32) (x5 : Int32) (x6 : Int32) (x7 : Int32) (h : aw_H) => Sat X 21 [.ref p0, .int x1, .int x2, .int x3, .int x4, .int x5, .int x6, .int x7, Value.null, Value.null] [] h) (fun (p0 : Nat) (x1 : Int32) (x2 : Int32) (x3 : Int32) (x4 : Int32) (x5 : Int32) (x7 : Int32) (x8 : Int32) (x9 : Int32) (h : aw_H) => Sat X 42 [.ref p0, .int x1, .int x2, .int x3, .int x4, .int x5, Value.null, .int x7, .int x8, .int x9] [] h) Q p0 x1 x2 x3 x4 x5 h) : Sat X 7 [.ref p0, .int x1, .int x2, .int x3, .int x4, .int x5, Value.null, Value.null, Value.null, Value.null] [] h := by
  unfold sm_X7_ups_7 at hh
  refine ow_iload C dX7_ups_7 rfl ?_
  refine ow_sipush (v := 200) C dX7_ups_9 rfl ?_
  refine ow_icmp_gt (tgt := 112) C dX7_ups_12 (by decide) hh (fun hh => ?_) (fun hh => ?_)
  · skip
    refine ow_bipush (v := (-4)) C dX7_ups_112 rfl ?_
    exact ow_iret Z dX7_ups_114 trivial hh
  · skip
    refine ow_iconst (v := 1) C dX7_ups_15 rfl ?_
    refine ow_istore (L' := [.ref p0, .int x1, .int x2, .int x3, .int x4, .int x5, .int 1, Value.null, Value.null, Value.null]) C dX7_ups_16 (by decide) rfl ?_
    refine ow_iconst (v := 0) C dX7_ups_18 rfl ?_
    refine ow_istore (L' := [.ref p0, .int x1, .int x2, .int x3, .int x4, .int x5, .int 1, .int 0, Value.null, Value.null]) C dX7_ups_19 (by decide) rfl ?_
    exact Sat.mask hh (mk_y (mk_y (mk_y (mk_y (mk_y (mk_y (mk_y (mk_y (mk_n (mk_n mk_0))))))))))
def sm_X7_ups_0 (K7 : Nat → Int32 → Int32 → Int32 → Int32 → Int32 → aw_H → Prop) (K21 : Nat → Int32 → Int32 → Int32 → Int32 → Int32 → Int32 → Int32 → aw_H → Prop) (K42 : Nat → Int32 → Int32 → Int32 → Int32 → Int32 → Int32 → Int32 → Int32 → aw_H → Prop) (Q : aw_R) (p0 : Nat) (x1 : Int32) (x2 : Int32) (x3 : Int32) (x4 : Int32) (h : aw_H) : Prop :=
  sv_O h p0 6 (tr_X7_layRuns [.ref p0] h fun r2 h1 => sr_V r2 <| K7 p0 x1 x2 x3 x4 1 h1)
set_option maxRecDepth 100000 in
set_option maxHeartbeats 4000000 in
theorem bl_X7_ups_0 {X : aw_X} {Q : aw_R} (C : aw_C X cX7_ups RX7 10 6) (Z : aw_Z X cX7_ups (some .int) Q) (p0 : Nat) (x1 : Int32) (x2 : Int32) (x3 : Int32) (x4 : Int32) (h : aw_H) (hh : sm_X7_ups_0 (fun (p0 : Nat) (x1 : Int32) (x2 : Int32) (x3 : Int32) (x4 : Int32) (x5 : Int32) (h : aw_H) => Sat X 7 [.ref p0, .int x1, .int x2, .int x3, .int x4, .int x5, Value.null, Value.null, Value.null, Value.null] [] h) (fun (p0 : Nat) (x1 : Int32) (x2 : Int32) (x3 : Int32) (x4 : Int32) (x5 : Int32) (x6 : Int32) (x7 : Int32) (h : aw_H) => Sat X 21 [.ref p0, .int x1, .int x2, .int x3, .int x4, .int x5, .int x6, .int x7, Value.null, Value.null] [] h) (fun (p0 : Nat) (x1 : Int32) (x2 : Int32) (x3 : Int32) (x4 : Int32) (x5 : Int32) (x7 : Int32) (x8 : Int32) (x9 : Int32) (h : aw_H) => Sat X 42 [.ref p0, .int x1, .int x2, .int x3, .int x4, .int x5, Value.null, .int x7, .int x8, .int x9] [] h) Q p0 x1 x2 x3 x4 h) : Sat X 0 [.ref p0, .int x1, .int x2, .int x3, .int x4, Value.null, Value.null, Value.null, Value.null, Value.null] [] h := by
  unfold sm_X7_ups_0 at hh
  refine ow_aload_n C dX7_ups_0 rfl rfl ?_
  refine ow_callV C (cv_X7_layRuns _) (Nat.le_of_ble_eq_true rfl) kw_718 dX7_ups_1 (as := []) (st := []) rfl rfl (Nat.le_of_ble_eq_true rfl) hh (fun r2 h1 hq => ?_)
  obtain ⟨rfl, hh⟩ := sr_V_e hq
  show Sat X 4 [.ref p0, .int x1, .int x2, .int x3, .int x4, Value.null, Value.null, Value.null, Value.null, Value.null] [] h1
  refine ow_iconst (v := 1) C dX7_ups_4 rfl ?_
  refine ow_istore (L' := [.ref p0, .int x1, .int x2, .int x3, .int x4, .int 1, Value.null, Value.null, Value.null, Value.null]) C dX7_ups_5 (by decide) rfl ?_
  exact Sat.mask hh (mk_y (mk_y (mk_y (mk_y (mk_y (mk_y (mk_n (mk_n (mk_n (mk_n mk_0))))))))))
def tr_X7_ups : aw_T := fun as h Q => ∃ (p0 : Nat) (x1 : Int32) (x2 : Int32) (x3 : Int32) (x4 : Int32), as = [.ref p0, .int x1, .int x2, .int x3, .int x4] ∧ (∀ (K7 : Nat → Int32 → Int32 → Int32 → Int32 → Int32 → aw_H → Prop) (K21 : Nat → Int32 → Int32 → Int32 → Int32 → Int32 → Int32 → Int32 → aw_H → Prop) (K42 : Nat → Int32 → Int32 → Int32 → Int32 → Int32 → Int32 → Int32 → Int32 → aw_H → Prop), (∀ (p0 : Nat) (x1 : Int32) (x2 : Int32) (x3 : Int32) (x4 : Int32) (x5 : Int32) (h : aw_H), sm_X7_ups_7 K7 K21 K42 Q p0 x1 x2 x3 x4 x5 h → K7 p0 x1 x2 x3 x4 x5 h) → (∀ (p0 : Nat) (x1 : Int32) (x2 : Int32) (x3 : Int32) (x4 : Int32) (x5 : Int32) (x6 : Int32) (x7 : Int32) (h : aw_H), sm_X7_ups_21 K7 K21 K42 Q p0 x1 x2 x3 x4 x5 x6 x7 h → K21 p0 x1 x2 x3 x4 x5 x6 x7 h) → (∀ (p0 : Nat) (x1 : Int32) (x2 : Int32) (x3 : Int32) (x4 : Int32) (x5 : Int32) (x7 : Int32) (x8 : Int32) (x9 : Int32) (h : aw_H), sm_X7_ups_42 K7 K21 K42 Q p0 x1 x2 x3 x4 x5 x7 x8 x9 h → K42 p0 x1 x2 x3 x4 x5 x7 x8 x9 h) → sm_X7_ups_0 K7 K21 K42 Q p0 x1 x2 x3 x4 h)
theorem tq_X7_ups {p0 : Nat} {x1 : Int32} {x2 : Int32} {x3 : Int32} {x4 : Int32} {h : aw_H} {Q : aw_R} : tr_X7_ups [.ref p0, .int x1, .int x2, .int x3, .int x4] h Q ↔ (∀ (K7 : Nat → Int32 → Int32 → Int32 → Int32 → Int32 → aw_H → Prop) (K21 : Nat → Int32 → Int32 → Int32 → Int32 → Int32 → Int32 → Int32 → aw_H → Prop) (K42 : Nat → Int32 → Int32 → Int32 → Int32 → Int32 → Int32 → Int32 → Int32 → aw_H → Prop), (∀ (p0 : Nat) (x1 : Int32) (x2 : Int32) (x3 : Int32) (x4 : Int32) (x5 : Int32) (h : aw_H), sm_X7_ups_7 K7 K21 K42 Q p0 x1 x2 x3 x4 x5 h → K7 p0 x1 x2 x3 x4 x5 h) → (∀ (p0 : Nat) (x1 : Int32) (x2 : Int32) (x3 : Int32) (x4 : Int32) (x5 : Int32) (x6 : Int32) (x7 : Int32) (h : aw_H), sm_X7_ups_21 K7 K21 K42 Q p0 x1 x2 x3 x4 x5 x6 x7 h → K21 p0 x1 x2 x3 x4 x5 x6 x7 h) → (∀ (p0 : Nat) (x1 : Int32) (x2 : Int32) (x3 : Int32) (x4 : Int32) (x5 : Int32) (x7 : Int32) (x8 : Int32) (x9 : Int32) (h : aw_H), sm_X7_ups_42 K7 K21 K42 Q p0 x1 x2 x3 x4 x5 x7 x8 x9 h → K42 p0 x1 x2 x3 x4 x5 x7 x8 x9 h) → sm_X7_ups_0 K7 K21 K42 Q p0 x1 x2 x3 x4 h) := by
  constructor
  · rintro ⟨_, _, _, _, _, as0, hh⟩
    cases as0
    exact hh
  · intro hh
    exact ⟨_, _, _, _, _, rfl, hh⟩
theorem ct_X7_ups (E : aw_F) : CT E yX7_ups cX7_ups 10 (some .int) 6 tr_X7_ups := by
  refine ct_of (by decide) ?_
  intro X Q as h hE C Z hG
  subst hE
  obtain ⟨p0, x1, x2, x3, x4, rfl, hh⟩ := hG
  refine ⟨[.ref p0, .int x1, .int x2, .int x3, .int x4, Value.null, Value.null, Value.null, Value.null, Value.null], rfl, Nat.le_of_ble_eq_true rfl, ?_⟩
  exact bl_X7_ups_0 C Z p0 x1 x2 x3 x4 h (hh (fun (p0 : Nat) (x1 : Int32) (x2 : Int32) (x3 : Int32) (x4 : Int32) (x5 : Int32) (h : aw_H) => Sat X 7 [.ref p0, .int x1, .int x2, .int x3, .int x4, .int x5, Value.null, Value.null, Value.null, Value.null] [] h) (fun (p0 : Nat) (x1 : Int32) (x2 : Int32) (x3 : Int32) (x4 : Int32) (x5 : Int32) (x6 : Int32) (x7 : Int32) (h : aw_H) => Sat X 21 [.ref p0, .int x1, .int x2, .int x3, .int x4, .int x5, .int x6, .int x7, Value.null, Value.null] [] h) (fun (p0 : Nat) (x1 : Int32) (x2 : Int32) (x3 : Int32) (x4 : Int32) (x5 : Int32) (x7 : Int32) (x8 : Int32) (x9 : Int32) (h : aw_H) => Sat X 42 [.ref p0, .int x1, .int x2, .int x3, .int x4, .int x5, Value.null, .int x7, .int x8, .int x9] [] h) (fun p0 x1 x2 x3 x4 x5 h hh => bl_X7_ups_7 C Z p0 x1 x2 x3 x4 x5 h hh) (fun p0 x1 x2 x3 x4 x5 x6 x7 h hh => bl_X7_ups_21 C Z p0 x1 x2 x3 x4 x5 x6 x7 h hh) (fun p0 x1 x2 x3 x4 x5 x7 x8 x9 h hh => bl_X7_ups_42 C Z p0 x1 x2 x3 x4 x5 x7 x8 x9 h hh))
theorem cv_X7_ups (E : aw_F) : CV E yX7_ups cX7_ups 10 (some .int) 6 4 6 tr_X7_ups := ⟨ct_X7_ups E, by decide, kw_823, kw_824, kw_527, kw_822, by decide +kernel, _, _, rfl⟩
theorem dX7_came_0 : decode cX7_came 0 = .ok (.iload_n 1, 1) := by decide +kernel
theorem dX7_came_1 : decode cX7_came 1 = .ok (.bipush (-2), 2) := by decide +kernel
theorem dX7_came_3 : decode cX7_came 3 = .ok (.aload_n 0, 1) := by decide +kernel
theorem dX7_came_4 : decode cX7_came 4 = .ok (.getfield 7, 3) := by decide +kernel
theorem dX7_came_7 : decode cX7_came 7 = .ok (.iconst 1, 1) := by decide +kernel
theorem dX7_came_8 : decode cX7_came 8 = .ok (.iaload, 1) := by decide +kernel
theorem dX7_came_9 : decode cX7_came 9 = .ok (.iconst 1, 1) := by decide +kernel
theorem dX7_came_10 : decode cX7_came 10 = .ok (.isub, 1) := by decide +kernel
theorem dX7_came_11 : decode cX7_came 11 = .ok (.invokestatic 42, 3) := by decide +kernel
theorem dX7_came_14 : decode cX7_came 14 = .ok (.ifCond .eq 48, 3) := by decide +kernel
theorem dX7_came_17 : decode cX7_came 17 = .ok (.aload_n 0, 1) := by decide +kernel
theorem dX7_came_18 : decode cX7_came 18 = .ok (.iload_n 2, 1) := by decide +kernel
theorem dX7_came_19 : decode cX7_came 19 = .ok (.invokevirtual 80, 3) := by decide +kernel
theorem dX7_came_22 : decode cX7_came 22 = .ok (.ifCond .eq 40, 3) := by decide +kernel
theorem dX7_came_25 : decode cX7_came 25 = .ok (.iload 6, 2) := by decide +kernel
theorem dX7_came_27 : decode cX7_came 27 = .ok (.iconst 1, 1) := by decide +kernel
theorem dX7_came_28 : decode cX7_came 28 = .ok (.bipush 8, 2) := by decide +kernel
theorem dX7_came_30 : decode cX7_came 30 = .ok (.invokestatic 42, 3) := by decide +kernel
theorem dX7_came_33 : decode cX7_came 33 = .ok (.ifCond .eq 29, 3) := by decide +kernel
theorem dX7_came_36 : decode cX7_came 36 = .ok (.iload_n 2, 1) := by decide +kernel
theorem dX7_came_37 : decode cX7_came 37 = .ok (.iload 6, 2) := by decide +kernel
theorem dX7_came_39 : decode cX7_came 39 = .ok (.iadd, 1) := by decide +kernel
theorem dX7_came_40 : decode cX7_came 40 = .ok (.aload_n 0, 1) := by decide +kernel
theorem dX7_came_41 : decode cX7_came 41 = .ok (.invokevirtual 38, 3) := by decide +kernel
theorem dX7_came_44 : decode cX7_came 44 = .ok (.if_icmp .gt 18, 3) := by decide +kernel
theorem dX7_came_47 : decode cX7_came 47 = .ok (.iload_n 3, 1) := by decide +kernel
theorem dX7_came_48 : decode cX7_came 48 = .ok (.invokestatic 208, 3) := by decide +kernel
theorem dX7_came_51 : decode cX7_came 51 = .ok (.ifCond .eq 11, 3) := by decide +kernel
theorem dX7_came_54 : decode cX7_came 54 = .ok (.iload 4, 2) := by decide +kernel
theorem dX7_came_56 : decode cX7_came 56 = .ok (.invokestatic 211, 3) := by decide +kernel
theorem dX7_came_59 : decode cX7_came 59 = .ok (.ifCond .ne 5, 3) := by decide +kernel
theorem dX7_came_62 : decode cX7_came 62 = .ok (.iconst (-1), 1) := by decide +kernel
theorem dX7_came_63 : decode cX7_came 63 = .ok (.ireturn, 1) := by decide +kernel
theorem dX7_came_64 : decode cX7_came 64 = .ok (.aload_n 0, 1) := by decide +kernel
theorem dX7_came_65 : decode cX7_came 65 = .ok (.iload_n 3, 1) := by decide +kernel
theorem dX7_came_66 : decode cX7_came 66 = .ok (.iload 4, 2) := by decide +kernel
theorem dX7_came_68 : decode cX7_came 68 = .ok (.iload 5, 2) := by decide +kernel
theorem dX7_came_70 : decode cX7_came 70 = .ok (.iload 6, 2) := by decide +kernel
theorem dX7_came_72 : decode cX7_came 72 = .ok (.invokevirtual 214, 3) := by decide +kernel
theorem dX7_came_75 : decode cX7_came 75 = .ok (.istore 7, 2) := by decide +kernel
theorem dX7_came_77 : decode cX7_came 77 = .ok (.iload 7, 2) := by decide +kernel
theorem dX7_came_79 : decode cX7_came 79 = .ok (.ifCond .ge 6, 3) := by decide +kernel
theorem dX7_came_82 : decode cX7_came 82 = .ok (.iload 7, 2) := by decide +kernel
theorem dX7_came_84 : decode cX7_came 84 = .ok (.ireturn, 1) := by decide +kernel
theorem dX7_came_85 : decode cX7_came 85 = .ok (.iload_n 1, 1) := by decide +kernel
theorem dX7_came_86 : decode cX7_came 86 = .ok (.iconst (-1), 1) := by decide +kernel
theorem dX7_came_87 : decode cX7_came 87 = .ok (.if_icmp .ne 16, 3) := by decide +kernel
theorem dX7_came_90 : decode cX7_came 90 = .ok (.aload_n 0, 1) := by decide +kernel
theorem dX7_came_91 : decode cX7_came 91 = .ok (.iload_n 2, 1) := by decide +kernel
theorem dX7_came_92 : decode cX7_came 92 = .ok (.iload_n 3, 1) := by decide +kernel
theorem dX7_came_93 : decode cX7_came 93 = .ok (.iload 5, 2) := by decide +kernel
theorem dX7_came_95 : decode cX7_came 95 = .ok (.iload 6, 2) := by decide +kernel
theorem dX7_came_97 : decode cX7_came 97 = .ok (.invokevirtual 218, 3) := by decide +kernel
theorem dX7_came_100 : decode cX7_came 100 = .ok (.goto 33, 3) := by decide +kernel
theorem dX7_came_103 : decode cX7_came 103 = .ok (.iload_n 1, 1) := by decide +kernel
theorem dX7_came_104 : decode cX7_came 104 = .ok (.bipush (-2), 2) := by decide +kernel
theorem dX7_came_106 : decode cX7_came 106 = .ok (.if_icmp .ne 16, 3) := by decide +kernel
theorem dX7_came_109 : decode cX7_came 109 = .ok (.aload_n 0, 1) := by decide +kernel
theorem dX7_came_110 : decode cX7_came 110 = .ok (.iload_n 2, 1) := by decide +kernel
theorem dX7_came_111 : decode cX7_came 111 = .ok (.iload_n 3, 1) := by decide +kernel
theorem dX7_came_112 : decode cX7_came 112 = .ok (.iload 5, 2) := by decide +kernel
theorem dX7_came_114 : decode cX7_came 114 = .ok (.iload 6, 2) := by decide +kernel
theorem dX7_came_116 : decode cX7_came 116 = .ok (.invokevirtual 221, 3) := by decide +kernel
theorem dX7_came_119 : decode cX7_came 119 = .ok (.goto 14, 3) := by decide +kernel
theorem dX7_came_122 : decode cX7_came 122 = .ok (.aload_n 0, 1) := by decide +kernel
theorem dX7_came_123 : decode cX7_came 123 = .ok (.iload_n 1, 1) := by decide +kernel
theorem dX7_came_124 : decode cX7_came 124 = .ok (.iload_n 2, 1) := by decide +kernel
theorem dX7_came_125 : decode cX7_came 125 = .ok (.iload_n 3, 1) := by decide +kernel
theorem dX7_came_126 : decode cX7_came 126 = .ok (.iload 5, 2) := by decide +kernel
theorem dX7_came_128 : decode cX7_came 128 = .ok (.iload 6, 2) := by decide +kernel
theorem dX7_came_130 : decode cX7_came 130 = .ok (.invokevirtual 224, 3) := by decide +kernel
theorem dX7_came_133 : decode cX7_came 133 = .ok (.ireturn, 1) := by decide +kernel
def sm_X7_came_0  (Q : aw_R) (p0 : Nat) (x1 : Int32) (x2 : Int32) (x3 : Int32) (x4 : Int32) (x5 : Int32) (x6 : Int32) (h : aw_H) : Prop :=
  sg_R h p0 6 0 fun q1 => sa_I h q1 1 fun v2 => tr_X7_in [.int x1, .int ((-2)), .int (v2 - 1)] h fun r4 h3 => sr_I r4 fun v5 => if v5 = 0 then (Q (some (.int ((-1)))) h3) else (sv_O h3 p0 6 (tr_X7_isState [.ref p0, .int x2] h3 fun r7 h6 => sr_I r7 fun v8 => if v8 = 0 then (Q (some (.int ((-1)))) h6) else (tr_X7_in [.int x6, .int 1, .int 8] h6 fun r10 h9 => sr_I r10 fun v11 => if v11 = 0 then (Q (some (.int ((-1)))) h9) else (sv_O h9 p0 6 (tr_X7_states [.ref p0] h9 fun r13 h12 => sr_I r13 fun v14 => if v14 < (x2 + x6) then (Q (some (.int ((-1)))) h12) else (tr_X7_isSheet [.int x3] h12 fun r16 h15 => sr_I r16 fun v17 => if v17 = 0 then (Q (some (.int ((-1)))) h15) else (tr_X7_isLane [.int x4] h15 fun r19 h18 => sr_I r19 fun v20 => if ¬ v20 = 0 then (sv_O h18 p0 6 (tr_X7_found [.ref p0, .int x3, .int x4, .int x5, .int x6] h18 fun r22 h21 => sr_I r22 fun v23 => if 0 ≤ v23 then (if ¬ x1 = ((-1)) then (if ¬ x1 = ((-2)) then (sv_O h21 p0 6 (tr_X7_kinds [.ref p0, .int x1, .int x2, .int x3, .int x5, .int x6] h21 fun r25 h24 => sr_I r25 fun v26 => Q (some (.int v26)) h24)) else (sv_O h21 p0 6 (tr_X7_ups [.ref p0, .int x2, .int x3, .int x5, .int x6] h21 fun r28 h27 => sr_I r28 fun v29 => Q (some (.int v29)) h27))) else (sv_O h21 p0 6 (tr_X7_deaths [.ref p0, .int x2, .int x3, .int x5, .int x6] h21 fun r31 h30 => sr_I r31 fun v32 => Q (some (.int v32)) h30))) else (Q (some (.int v23)) h21))) else (Q (some (.int ((-1)))) h18))))))))
set_option maxRecDepth 100000 in
set_option maxHeartbeats 4000000 in
theorem bl_X7_came_0 {X : aw_X} {Q : aw_R} (C : aw_C X cX7_came RX7 8 7) (Z : aw_Z X cX7_came (some .int) Q) (p0 : Nat) (x1 : Int32) (x2 : Int32) (x3 : Int32) (x4 : Int32) (x5 : Int32) (x6 : Int32) (h : aw_H) (hh : sm_X7_came_0  Q p0 x1 x2 x3 x4 x5 x6 h) : Sat X 0 [.ref p0, .int x1, .int x2, .int x3, .int x4, .int x5, .int x6, Value.null] [] h := by
  unfold sm_X7_came_0 at hh
  refine ow_iload_n C dX7_came_0 rfl rfl ?_
  refine ow_bipush (v := (-2)) C dX7_came_1 rfl ?_
  refine ow_aload_n C dX7_came_3 rfl rfl ?_
  refine ow_getR (ci := 6) (k := 0) (T := TX7) C rfl igX7 (by decide) kw_533 dX7_came_4 hh (fun q1 hh => ?_)
  refine ow_iconst (v := 1) C dX7_came_7 rfl ?_
  refine ow_iaload C dX7_came_8 hh (fun v2 hh => ?_)
  refine ow_iconst (v := 1) C dX7_came_9 rfl ?_
  refine ow_isub C dX7_came_10 ?_
  refine ow_callS C (cs_X7_in _) (Nat.le_of_ble_eq_true rfl) kw_541 dX7_came_11 (as := [.int x1, .int ((-2)), .int (v2 - 1)]) (st := []) rfl rfl (Nat.le_of_ble_eq_true rfl) hh (fun r4 h3 hq => ?_)
  obtain ⟨v5, rfl, hh⟩ := sr_I_e hq
  show Sat X 14 [.ref p0, .int x1, .int x2, .int x3, .int x4, .int x5, .int x6, Value.null] [.int v5] h3
  refine ow_if_eq (tgt := 62) C dX7_came_14 (by decide) hh (fun hh => ?_) (fun hh => ?_)
  · skip
    refine ow_iconst (v := (-1)) C dX7_came_62 rfl ?_
    exact ow_iret Z dX7_came_63 trivial hh
  · skip
    refine ow_aload_n C dX7_came_17 rfl rfl ?_
    refine ow_iload_n C dX7_came_18 rfl rfl ?_
    refine ow_callV C (cv_X7_isState _) (Nat.le_of_ble_eq_true rfl) kw_586 dX7_came_19 (as := [.int x2]) (st := []) rfl rfl (Nat.le_of_ble_eq_true rfl) hh (fun r7 h6 hq => ?_)
    obtain ⟨v8, rfl, hh⟩ := sr_I_e hq
    show Sat X 22 [.ref p0, .int x1, .int x2, .int x3, .int x4, .int x5, .int x6, Value.null] [.int v8] h6
    refine ow_if_eq (tgt := 62) C dX7_came_22 (by decide) hh (fun hh => ?_) (fun hh => ?_)
    · skip
      refine ow_iconst (v := (-1)) C dX7_came_62 rfl ?_
      exact ow_iret Z dX7_came_63 trivial hh
    · skip
      refine ow_iload C dX7_came_25 rfl ?_
      refine ow_iconst (v := 1) C dX7_came_27 rfl ?_
      refine ow_bipush (v := 8) C dX7_came_28 rfl ?_
      refine ow_callS C (cs_X7_in _) (Nat.le_of_ble_eq_true rfl) kw_541 dX7_came_30 (as := [.int x6, .int 1, .int 8]) (st := []) rfl rfl (Nat.le_of_ble_eq_true rfl) hh (fun r10 h9 hq => ?_)
      obtain ⟨v11, rfl, hh⟩ := sr_I_e hq
      show Sat X 33 [.ref p0, .int x1, .int x2, .int x3, .int x4, .int x5, .int x6, Value.null] [.int v11] h9
      refine ow_if_eq (tgt := 62) C dX7_came_33 (by decide) hh (fun hh => ?_) (fun hh => ?_)
      · skip
        refine ow_iconst (v := (-1)) C dX7_came_62 rfl ?_
        exact ow_iret Z dX7_came_63 trivial hh
      · skip
        refine ow_iload_n C dX7_came_36 rfl rfl ?_
        refine ow_iload C dX7_came_37 rfl ?_
        refine ow_iadd C dX7_came_39 ?_
        refine ow_aload_n C dX7_came_40 rfl rfl ?_
        refine ow_callV C (cv_X7_states _) (Nat.le_of_ble_eq_true rfl) kw_540 dX7_came_41 (as := []) (st := [.int (x2 + x6)]) rfl rfl (Nat.le_of_ble_eq_true rfl) hh (fun r13 h12 hq => ?_)
        obtain ⟨v14, rfl, hh⟩ := sr_I_e hq
        show Sat X 44 [.ref p0, .int x1, .int x2, .int x3, .int x4, .int x5, .int x6, Value.null] [.int v14, .int (x2 + x6)] h12
        refine ow_icmp_gt (tgt := 62) C dX7_came_44 (by decide) hh (fun hh => ?_) (fun hh => ?_)
        · skip
          refine ow_iconst (v := (-1)) C dX7_came_62 rfl ?_
          exact ow_iret Z dX7_came_63 trivial hh
        · skip
          refine ow_iload_n C dX7_came_47 rfl rfl ?_
          refine ow_callS C (cs_X7_isSheet _) (Nat.le_of_ble_eq_true rfl) kw_825 dX7_came_48 (as := [.int x3]) (st := []) rfl rfl (Nat.le_of_ble_eq_true rfl) hh (fun r16 h15 hq => ?_)
          obtain ⟨v17, rfl, hh⟩ := sr_I_e hq
          show Sat X 51 [.ref p0, .int x1, .int x2, .int x3, .int x4, .int x5, .int x6, Value.null] [.int v17] h15
          refine ow_if_eq (tgt := 62) C dX7_came_51 (by decide) hh (fun hh => ?_) (fun hh => ?_)
          · skip
            refine ow_iconst (v := (-1)) C dX7_came_62 rfl ?_
            exact ow_iret Z dX7_came_63 trivial hh
          · skip
            refine ow_iload C dX7_came_54 rfl ?_
            refine ow_callS C (cs_X7_isLane _) (Nat.le_of_ble_eq_true rfl) kw_826 dX7_came_56 (as := [.int x4]) (st := []) rfl rfl (Nat.le_of_ble_eq_true rfl) hh (fun r19 h18 hq => ?_)
            obtain ⟨v20, rfl, hh⟩ := sr_I_e hq
            show Sat X 59 [.ref p0, .int x1, .int x2, .int x3, .int x4, .int x5, .int x6, Value.null] [.int v20] h18
            refine ow_if_ne (tgt := 64) C dX7_came_59 (by decide) hh (fun hh => ?_) (fun hh => ?_)
            · skip
              refine ow_aload_n C dX7_came_64 rfl rfl ?_
              refine ow_iload_n C dX7_came_65 rfl rfl ?_
              refine ow_iload C dX7_came_66 rfl ?_
              refine ow_iload C dX7_came_68 rfl ?_
              refine ow_iload C dX7_came_70 rfl ?_
              refine ow_callV C (cv_X7_found _) (Nat.le_of_ble_eq_true rfl) kw_827 dX7_came_72 (as := [.int x3, .int x4, .int x5, .int x6]) (st := []) rfl rfl (Nat.le_of_ble_eq_true rfl) hh (fun r22 h21 hq => ?_)
              obtain ⟨v23, rfl, hh⟩ := sr_I_e hq
              show Sat X 75 [.ref p0, .int x1, .int x2, .int x3, .int x4, .int x5, .int x6, Value.null] [.int v23] h21
              refine ow_istore (L' := [.ref p0, .int x1, .int x2, .int x3, .int x4, .int x5, .int x6, .int v23]) C dX7_came_75 (by decide) rfl ?_
              refine ow_iload C dX7_came_77 rfl ?_
              refine ow_if_ge (tgt := 85) C dX7_came_79 (by decide) hh (fun hh => ?_) (fun hh => ?_)
              · skip
                refine ow_iload_n C dX7_came_85 rfl rfl ?_
                refine ow_iconst (v := (-1)) C dX7_came_86 rfl ?_
                refine ow_icmp_ne (tgt := 103) C dX7_came_87 (by decide) hh (fun hh => ?_) (fun hh => ?_)
                · skip
                  refine ow_iload_n C dX7_came_103 rfl rfl ?_
                  refine ow_bipush (v := (-2)) C dX7_came_104 rfl ?_
                  refine ow_icmp_ne (tgt := 122) C dX7_came_106 (by decide) hh (fun hh => ?_) (fun hh => ?_)
                  · skip
                    refine ow_aload_n C dX7_came_122 rfl rfl ?_
                    refine ow_iload_n C dX7_came_123 rfl rfl ?_
                    refine ow_iload_n C dX7_came_124 rfl rfl ?_
                    refine ow_iload_n C dX7_came_125 rfl rfl ?_
                    refine ow_iload C dX7_came_126 rfl ?_
                    refine ow_iload C dX7_came_128 rfl ?_
                    refine ow_callV C (cv_X7_kinds _) (Nat.le_of_ble_eq_true rfl) kw_828 dX7_came_130 (as := [.int x1, .int x2, .int x3, .int x5, .int x6]) (st := []) rfl rfl (Nat.le_of_ble_eq_true rfl) hh (fun r25 h24 hq => ?_)
                    obtain ⟨v26, rfl, hh⟩ := sr_I_e hq
                    show Sat X 133 [.ref p0, .int x1, .int x2, .int x3, .int x4, .int x5, .int x6, .int v23] [.int v26] h24
                    exact ow_iret Z dX7_came_133 trivial hh
                  · skip
                    refine ow_aload_n C dX7_came_109 rfl rfl ?_
                    refine ow_iload_n C dX7_came_110 rfl rfl ?_
                    refine ow_iload_n C dX7_came_111 rfl rfl ?_
                    refine ow_iload C dX7_came_112 rfl ?_
                    refine ow_iload C dX7_came_114 rfl ?_
                    refine ow_callV C (cv_X7_ups _) (Nat.le_of_ble_eq_true rfl) kw_829 dX7_came_116 (as := [.int x2, .int x3, .int x5, .int x6]) (st := []) rfl rfl (Nat.le_of_ble_eq_true rfl) hh (fun r28 h27 hq => ?_)
                    obtain ⟨v29, rfl, hh⟩ := sr_I_e hq
                    show Sat X 119 [.ref p0, .int x1, .int x2, .int x3, .int x4, .int x5, .int x6, .int v23] [.int v29] h27
                    refine ow_goto (tgt := 133) C dX7_came_119 (by decide) ?_
                    exact ow_iret Z dX7_came_133 trivial hh
                · skip
                  refine ow_aload_n C dX7_came_90 rfl rfl ?_
                  refine ow_iload_n C dX7_came_91 rfl rfl ?_
                  refine ow_iload_n C dX7_came_92 rfl rfl ?_
                  refine ow_iload C dX7_came_93 rfl ?_
                  refine ow_iload C dX7_came_95 rfl ?_
                  refine ow_callV C (cv_X7_deaths _) (Nat.le_of_ble_eq_true rfl) kw_830 dX7_came_97 (as := [.int x2, .int x3, .int x5, .int x6]) (st := []) rfl rfl (Nat.le_of_ble_eq_true rfl) hh (fun r31 h30 hq => ?_)
                  obtain ⟨v32, rfl, hh⟩ := sr_I_e hq
                  show Sat X 100 [.ref p0, .int x1, .int x2, .int x3, .int x4, .int x5, .int x6, .int v23] [.int v32] h30
                  refine ow_goto (tgt := 133) C dX7_came_100 (by decide) ?_
                  exact ow_iret Z dX7_came_133 trivial hh
              · skip
                refine ow_iload C dX7_came_82 rfl ?_
                exact ow_iret Z dX7_came_84 trivial hh
            · skip
              refine ow_iconst (v := (-1)) C dX7_came_62 rfl ?_
              exact ow_iret Z dX7_came_63 trivial hh
def tr_X7_came : aw_T := fun as h Q => ∃ (p0 : Nat) (x1 : Int32) (x2 : Int32) (x3 : Int32) (x4 : Int32) (x5 : Int32) (x6 : Int32), as = [.ref p0, .int x1, .int x2, .int x3, .int x4, .int x5, .int x6] ∧ (sm_X7_came_0  Q p0 x1 x2 x3 x4 x5 x6 h)
theorem tq_X7_came {p0 : Nat} {x1 : Int32} {x2 : Int32} {x3 : Int32} {x4 : Int32} {x5 : Int32} {x6 : Int32} {h : aw_H} {Q : aw_R} : tr_X7_came [.ref p0, .int x1, .int x2, .int x3, .int x4, .int x5, .int x6] h Q ↔ (sm_X7_came_0  Q p0 x1 x2 x3 x4 x5 x6 h) := by
  constructor
  · rintro ⟨_, _, _, _, _, _, _, as0, hh⟩
    cases as0
    exact hh
  · intro hh
    exact ⟨_, _, _, _, _, _, _, rfl, hh⟩
theorem ct_X7_came (E : aw_F) : CT E yX7_came cX7_came 8 (some .int) 7 tr_X7_came := by
  refine ct_of (by decide) ?_
  intro X Q as h hE C Z hG
  subst hE
  obtain ⟨p0, x1, x2, x3, x4, x5, x6, rfl, hh⟩ := hG
  refine ⟨[.ref p0, .int x1, .int x2, .int x3, .int x4, .int x5, .int x6, Value.null], rfl, Nat.le_of_ble_eq_true rfl, ?_⟩
  exact bl_X7_came_0 C Z p0 x1 x2 x3 x4 x5 x6 h hh
theorem cv_X7_came (E : aw_F) : CV E yX7_came cX7_came 8 (some .int) 7 6 6 tr_X7_came := ⟨ct_X7_came E, by decide, kw_832, kw_833, kw_527, kw_831, by decide +kernel, _, _, rfl⟩
theorem dX7_film_0 : decode cX7_film 0 = .ok (.aload_n 0, 1) := by decide +kernel
theorem dX7_film_1 : decode cX7_film 1 = .ok (.iload_n 1, 1) := by decide +kernel
theorem dX7_film_2 : decode cX7_film 2 = .ok (.invokevirtual 80, 3) := by decide +kernel
theorem dX7_film_5 : decode cX7_film 5 = .ok (.ifCond .eq 38, 3) := by decide +kernel
theorem dX7_film_8 : decode cX7_film 8 = .ok (.iload_n 2, 1) := by decide +kernel
theorem dX7_film_9 : decode cX7_film 9 = .ok (.iconst 1, 1) := by decide +kernel
theorem dX7_film_10 : decode cX7_film 10 = .ok (.bipush 24, 2) := by decide +kernel
theorem dX7_film_12 : decode cX7_film 12 = .ok (.invokestatic 42, 3) := by decide +kernel
theorem dX7_film_15 : decode cX7_film 15 = .ok (.ifCond .eq 28, 3) := by decide +kernel
theorem dX7_film_18 : decode cX7_film 18 = .ok (.iload_n 1, 1) := by decide +kernel
theorem dX7_film_19 : decode cX7_film 19 = .ok (.iload_n 2, 1) := by decide +kernel
theorem dX7_film_20 : decode cX7_film 20 = .ok (.iadd, 1) := by decide +kernel
theorem dX7_film_21 : decode cX7_film 21 = .ok (.aload_n 0, 1) := by decide +kernel
theorem dX7_film_22 : decode cX7_film 22 = .ok (.invokevirtual 38, 3) := by decide +kernel
theorem dX7_film_25 : decode cX7_film 25 = .ok (.if_icmp .gt 18, 3) := by decide +kernel
theorem dX7_film_28 : decode cX7_film 28 = .ok (.iload_n 3, 1) := by decide +kernel
theorem dX7_film_29 : decode cX7_film 29 = .ok (.invokestatic 208, 3) := by decide +kernel
theorem dX7_film_32 : decode cX7_film 32 = .ok (.ifCond .eq 11, 3) := by decide +kernel
theorem dX7_film_35 : decode cX7_film 35 = .ok (.iload 4, 2) := by decide +kernel
theorem dX7_film_37 : decode cX7_film 37 = .ok (.invokestatic 211, 3) := by decide +kernel
theorem dX7_film_40 : decode cX7_film 40 = .ok (.ifCond .ne 5, 3) := by decide +kernel
theorem dX7_film_43 : decode cX7_film 43 = .ok (.iconst (-1), 1) := by decide +kernel
theorem dX7_film_44 : decode cX7_film 44 = .ok (.ireturn, 1) := by decide +kernel
theorem dX7_film_45 : decode cX7_film 45 = .ok (.aload_n 0, 1) := by decide +kernel
theorem dX7_film_46 : decode cX7_film 46 = .ok (.iload_n 3, 1) := by decide +kernel
theorem dX7_film_47 : decode cX7_film 47 = .ok (.iload 4, 2) := by decide +kernel
theorem dX7_film_49 : decode cX7_film 49 = .ok (.iload 5, 2) := by decide +kernel
theorem dX7_film_51 : decode cX7_film 51 = .ok (.iload_n 2, 1) := by decide +kernel
theorem dX7_film_52 : decode cX7_film 52 = .ok (.invokevirtual 214, 3) := by decide +kernel
theorem dX7_film_55 : decode cX7_film 55 = .ok (.istore 6, 2) := by decide +kernel
theorem dX7_film_57 : decode cX7_film 57 = .ok (.iload 6, 2) := by decide +kernel
theorem dX7_film_59 : decode cX7_film 59 = .ok (.ifCond .ge 6, 3) := by decide +kernel
theorem dX7_film_62 : decode cX7_film 62 = .ok (.iload 6, 2) := by decide +kernel
theorem dX7_film_64 : decode cX7_film 64 = .ok (.ireturn, 1) := by decide +kernel
theorem dX7_film_65 : decode cX7_film 65 = .ok (.iconst 0, 1) := by decide +kernel
theorem dX7_film_66 : decode cX7_film 66 = .ok (.istore 7, 2) := by decide +kernel
theorem dX7_film_68 : decode cX7_film 68 = .ok (.iload 7, 2) := by decide +kernel
theorem dX7_film_70 : decode cX7_film 70 = .ok (.iload_n 2, 1) := by decide +kernel
theorem dX7_film_71 : decode cX7_film 71 = .ok (.if_icmp .ge 34, 3) := by decide +kernel
theorem dX7_film_74 : decode cX7_film 74 = .ok (.aload_n 0, 1) := by decide +kernel
theorem dX7_film_75 : decode cX7_film 75 = .ok (.getfield 16, 3) := by decide +kernel
theorem dX7_film_78 : decode cX7_film 78 = .ok (.bipush 24, 2) := by decide +kernel
theorem dX7_film_80 : decode cX7_film 80 = .ok (.iload_n 3, 1) := by decide +kernel
theorem dX7_film_81 : decode cX7_film 81 = .ok (.imul, 1) := by decide +kernel
theorem dX7_film_82 : decode cX7_film 82 = .ok (.iload 5, 2) := by decide +kernel
theorem dX7_film_84 : decode cX7_film 84 = .ok (.iadd, 1) := by decide +kernel
theorem dX7_film_85 : decode cX7_film 85 = .ok (.iload 7, 2) := by decide +kernel
theorem dX7_film_87 : decode cX7_film 87 = .ok (.iadd, 1) := by decide +kernel
theorem dX7_film_88 : decode cX7_film 88 = .ok (.aload_n 0, 1) := by decide +kernel
theorem dX7_film_89 : decode cX7_film 89 = .ok (.iconst 0, 1) := by decide +kernel
theorem dX7_film_90 : decode cX7_film 90 = .ok (.iload_n 1, 1) := by decide +kernel
theorem dX7_film_91 : decode cX7_film 91 = .ok (.iload 7, 2) := by decide +kernel
theorem dX7_film_93 : decode cX7_film 93 = .ok (.iadd, 1) := by decide +kernel
theorem dX7_film_94 : decode cX7_film 94 = .ok (.invokevirtual 163, 3) := by decide +kernel
theorem dX7_film_97 : decode cX7_film 97 = .ok (.i2l, 1) := by decide +kernel
theorem dX7_film_98 : decode cX7_film 98 = .ok (.lastore, 1) := by decide +kernel
theorem dX7_film_99 : decode cX7_film 99 = .ok (.iinc 7 1, 3) := by decide +kernel
theorem dX7_film_102 : decode cX7_film 102 = .ok (.goto (-34), 3) := by decide +kernel
theorem dX7_film_105 : decode cX7_film 105 = .ok (.iload_n 2, 1) := by decide +kernel
theorem dX7_film_106 : decode cX7_film 106 = .ok (.ireturn, 1) := by decide +kernel
def sm_X7_film_68 (K68 : Nat → Int32 → Int32 → Int32 → Int32 → Int32 → aw_H → Prop) (Q : aw_R) (p0 : Nat) (x1 : Int32) (x2 : Int32) (x3 : Int32) (x5 : Int32) (x7 : Int32) (h : aw_H) : Prop :=
  if x2 ≤ x7 then (Q (some (.int x2)) h) else (sg_R h p0 6 4 fun q1 => sv_O h p0 6 (tr_X7_runIn [.ref p0, .int 0, .int (x1 + x7)] h fun r3 h2 => sr_I r3 fun v4 => ss_L h2 q1 (((24 * x3) + x5) + x7) (Int32.toInt64 v4) fun h5 => K68 p0 x1 x2 x3 x5 (x7 + 1) h5))
set_option maxRecDepth 100000 in
set_option maxHeartbeats 4000000 in
theorem bl_X7_film_68 {X : aw_X} {Q : aw_R} (C : aw_C X cX7_film RX7 8 5) (Z : aw_Z X cX7_film (some .int) Q) (p0 : Nat) (x1 : Int32) (x2 : Int32) (x3 : Int32) (x5 : Int32) (x7 : Int32) (h : aw_H) (hh : sm_X7_film_68 (fun (p0 : Nat) (x1 : Int32) (x2 : Int32) (x3 : Int32) (x5 : Int32) (x7 : Int32) (h : aw_H) => Sat X 68 [.ref p0, .int x1, .int x2, .int x3, Value.null, .int x5, Value.null, .int x7] [] h) Q p0 x1 x2 x3 x5 x7 h) : Sat X 68 [.ref p0, .int x1, .int x2, .int x3, Value.null, .int x5, Value.null, .int x7] [] h := by
  unfold sm_X7_film_68 at hh
  refine ow_iload C dX7_film_68 rfl ?_
  refine ow_iload_n C dX7_film_70 rfl rfl ?_
  refine ow_icmp_ge (tgt := 105) C dX7_film_71 (by decide) hh (fun hh => ?_) (fun hh => ?_)
  · skip
    refine ow_iload_n C dX7_film_105 rfl rfl ?_
    exact ow_iret Z dX7_film_106 trivial hh
  · skip
    refine ow_aload_n C dX7_film_74 rfl rfl ?_
    refine ow_getR (ci := 6) (k := 4) (T := TX7) C rfl igX7 (by decide) kw_811 dX7_film_75 hh (fun q1 hh => ?_)
    refine ow_bipush (v := 24) C dX7_film_78 rfl ?_
    refine ow_iload_n C dX7_film_80 rfl rfl ?_
    refine ow_imul C dX7_film_81 ?_
    refine ow_iload C dX7_film_82 rfl ?_
    refine ow_iadd C dX7_film_84 ?_
    refine ow_iload C dX7_film_85 rfl ?_
    refine ow_iadd C dX7_film_87 ?_
    refine ow_aload_n C dX7_film_88 rfl rfl ?_
    refine ow_iconst (v := 0) C dX7_film_89 rfl ?_
    refine ow_iload_n C dX7_film_90 rfl rfl ?_
    refine ow_iload C dX7_film_91 rfl ?_
    refine ow_iadd C dX7_film_93 ?_
    refine ow_callV C (cv_X7_runIn _) (Nat.le_of_ble_eq_true rfl) kw_707 dX7_film_94 (as := [.int 0, .int (x1 + x7)]) (st := [.int (((24 * x3) + x5) + x7), .ref q1]) rfl rfl (Nat.le_of_ble_eq_true rfl) hh (fun r3 h2 hq => ?_)
    obtain ⟨v4, rfl, hh⟩ := sr_I_e hq
    show Sat X 97 [.ref p0, .int x1, .int x2, .int x3, Value.null, .int x5, Value.null, .int x7] [.int v4, .int (((24 * x3) + x5) + x7), .ref q1] h2
    refine ow_i2l C dX7_film_97 ?_
    refine ow_lastore C dX7_film_98 hh (fun h5 hh => ?_)
    refine ow_iinc (v := x7 + 1) (L' := [.ref p0, .int x1, .int x2, .int x3, Value.null, .int x5, Value.null, .int (x7 + 1)]) C dX7_film_99 rfl rfl (by decide) rfl ?_
    refine ow_goto (tgt := 68) C dX7_film_102 (by decide) ?_
    exact Sat.mask hh (mk_y (mk_y (mk_y (mk_y (mk_n (mk_y (mk_n (mk_y mk_0))))))))
def sm_X7_film_0 (K68 : Nat → Int32 → Int32 → Int32 → Int32 → Int32 → aw_H → Prop) (Q : aw_R) (p0 : Nat) (x1 : Int32) (x2 : Int32) (x3 : Int32) (x4 : Int32) (x5 : Int32) (h : aw_H) : Prop :=
  sv_O h p0 6 (tr_X7_isState [.ref p0, .int x1] h fun r2 h1 => sr_I r2 fun v3 => if v3 = 0 then (Q (some (.int ((-1)))) h1) else (tr_X7_in [.int x2, .int 1, .int 24] h1 fun r5 h4 => sr_I r5 fun v6 => if v6 = 0 then (Q (some (.int ((-1)))) h4) else (sv_O h4 p0 6 (tr_X7_states [.ref p0] h4 fun r8 h7 => sr_I r8 fun v9 => if v9 < (x1 + x2) then (Q (some (.int ((-1)))) h7) else (tr_X7_isSheet [.int x3] h7 fun r11 h10 => sr_I r11 fun v12 => if v12 = 0 then (Q (some (.int ((-1)))) h10) else (tr_X7_isLane [.int x4] h10 fun r14 h13 => sr_I r14 fun v15 => if ¬ v15 = 0 then (sv_O h13 p0 6 (tr_X7_found [.ref p0, .int x3, .int x4, .int x5, .int x2] h13 fun r17 h16 => sr_I r17 fun v18 => if 0 ≤ v18 then (K68 p0 x1 x2 x3 x5 0 h16) else (Q (some (.int v18)) h16))) else (Q (some (.int ((-1)))) h13)))))))
set_option maxRecDepth 100000 in
set_option maxHeartbeats 4000000 in
theorem bl_X7_film_0 {X : aw_X} {Q : aw_R} (C : aw_C X cX7_film RX7 8 5) (Z : aw_Z X cX7_film (some .int) Q) (p0 : Nat) (x1 : Int32) (x2 : Int32) (x3 : Int32) (x4 : Int32) (x5 : Int32) (h : aw_H) (hh : sm_X7_film_0 (fun (p0 : Nat) (x1 : Int32) (x2 : Int32) (x3 : Int32) (x5 : Int32) (x7 : Int32) (h : aw_H) => Sat X 68 [.ref p0, .int x1, .int x2, .int x3, Value.null, .int x5, Value.null, .int x7] [] h) Q p0 x1 x2 x3 x4 x5 h) : Sat X 0 [.ref p0, .int x1, .int x2, .int x3, .int x4, .int x5, Value.null, Value.null] [] h := by
  unfold sm_X7_film_0 at hh
  refine ow_aload_n C dX7_film_0 rfl rfl ?_
  refine ow_iload_n C dX7_film_1 rfl rfl ?_
  refine ow_callV C (cv_X7_isState _) (Nat.le_of_ble_eq_true rfl) kw_586 dX7_film_2 (as := [.int x1]) (st := []) rfl rfl (Nat.le_of_ble_eq_true rfl) hh (fun r2 h1 hq => ?_)
  obtain ⟨v3, rfl, hh⟩ := sr_I_e hq
  show Sat X 5 [.ref p0, .int x1, .int x2, .int x3, .int x4, .int x5, Value.null, Value.null] [.int v3] h1
  refine ow_if_eq (tgt := 43) C dX7_film_5 (by decide) hh (fun hh => ?_) (fun hh => ?_)
  · skip
    refine ow_iconst (v := (-1)) C dX7_film_43 rfl ?_
    exact ow_iret Z dX7_film_44 trivial hh
  · skip
    refine ow_iload_n C dX7_film_8 rfl rfl ?_
    refine ow_iconst (v := 1) C dX7_film_9 rfl ?_
    refine ow_bipush (v := 24) C dX7_film_10 rfl ?_
    refine ow_callS C (cs_X7_in _) (Nat.le_of_ble_eq_true rfl) kw_541 dX7_film_12 (as := [.int x2, .int 1, .int 24]) (st := []) rfl rfl (Nat.le_of_ble_eq_true rfl) hh (fun r5 h4 hq => ?_)
    obtain ⟨v6, rfl, hh⟩ := sr_I_e hq
    show Sat X 15 [.ref p0, .int x1, .int x2, .int x3, .int x4, .int x5, Value.null, Value.null] [.int v6] h4
    refine ow_if_eq (tgt := 43) C dX7_film_15 (by decide) hh (fun hh => ?_) (fun hh => ?_)
    · skip
      refine ow_iconst (v := (-1)) C dX7_film_43 rfl ?_
      exact ow_iret Z dX7_film_44 trivial hh
    · skip
      refine ow_iload_n C dX7_film_18 rfl rfl ?_
      refine ow_iload_n C dX7_film_19 rfl rfl ?_
      refine ow_iadd C dX7_film_20 ?_
      refine ow_aload_n C dX7_film_21 rfl rfl ?_
      refine ow_callV C (cv_X7_states _) (Nat.le_of_ble_eq_true rfl) kw_540 dX7_film_22 (as := []) (st := [.int (x1 + x2)]) rfl rfl (Nat.le_of_ble_eq_true rfl) hh (fun r8 h7 hq => ?_)
      obtain ⟨v9, rfl, hh⟩ := sr_I_e hq
      show Sat X 25 [.ref p0, .int x1, .int x2, .int x3, .int x4, .int x5, Value.null, Value.null] [.int v9, .int (x1 + x2)] h7
      refine ow_icmp_gt (tgt := 43) C dX7_film_25 (by decide) hh (fun hh => ?_) (fun hh => ?_)
      · skip
        refine ow_iconst (v := (-1)) C dX7_film_43 rfl ?_
        exact ow_iret Z dX7_film_44 trivial hh
      · skip
        refine ow_iload_n C dX7_film_28 rfl rfl ?_
        refine ow_callS C (cs_X7_isSheet _) (Nat.le_of_ble_eq_true rfl) kw_825 dX7_film_29 (as := [.int x3]) (st := []) rfl rfl (Nat.le_of_ble_eq_true rfl) hh (fun r11 h10 hq => ?_)
        obtain ⟨v12, rfl, hh⟩ := sr_I_e hq
        show Sat X 32 [.ref p0, .int x1, .int x2, .int x3, .int x4, .int x5, Value.null, Value.null] [.int v12] h10
        refine ow_if_eq (tgt := 43) C dX7_film_32 (by decide) hh (fun hh => ?_) (fun hh => ?_)
        · skip
          refine ow_iconst (v := (-1)) C dX7_film_43 rfl ?_
          exact ow_iret Z dX7_film_44 trivial hh
        · skip
          refine ow_iload C dX7_film_35 rfl ?_
          refine ow_callS C (cs_X7_isLane _) (Nat.le_of_ble_eq_true rfl) kw_826 dX7_film_37 (as := [.int x4]) (st := []) rfl rfl (Nat.le_of_ble_eq_true rfl) hh (fun r14 h13 hq => ?_)
          obtain ⟨v15, rfl, hh⟩ := sr_I_e hq
          show Sat X 40 [.ref p0, .int x1, .int x2, .int x3, .int x4, .int x5, Value.null, Value.null] [.int v15] h13
          refine ow_if_ne (tgt := 45) C dX7_film_40 (by decide) hh (fun hh => ?_) (fun hh => ?_)
          · skip
            refine ow_aload_n C dX7_film_45 rfl rfl ?_
            refine ow_iload_n C dX7_film_46 rfl rfl ?_
            refine ow_iload C dX7_film_47 rfl ?_
            refine ow_iload C dX7_film_49 rfl ?_
            refine ow_iload_n C dX7_film_51 rfl rfl ?_
            refine ow_callV C (cv_X7_found _) (Nat.le_of_ble_eq_true rfl) kw_827 dX7_film_52 (as := [.int x3, .int x4, .int x5, .int x2]) (st := []) rfl rfl (Nat.le_of_ble_eq_true rfl) hh (fun r17 h16 hq => ?_)
            obtain ⟨v18, rfl, hh⟩ := sr_I_e hq
            show Sat X 55 [.ref p0, .int x1, .int x2, .int x3, .int x4, .int x5, Value.null, Value.null] [.int v18] h16
            refine ow_istore (L' := [.ref p0, .int x1, .int x2, .int x3, .int x4, .int x5, .int v18, Value.null]) C dX7_film_55 (by decide) rfl ?_
            refine ow_iload C dX7_film_57 rfl ?_
            refine ow_if_ge (tgt := 65) C dX7_film_59 (by decide) hh (fun hh => ?_) (fun hh => ?_)
            · skip
              refine ow_iconst (v := 0) C dX7_film_65 rfl ?_
              refine ow_istore (L' := [.ref p0, .int x1, .int x2, .int x3, .int x4, .int x5, .int v18, .int 0]) C dX7_film_66 (by decide) rfl ?_
              exact Sat.mask hh (mk_y (mk_y (mk_y (mk_y (mk_n (mk_y (mk_n (mk_y mk_0))))))))
            · skip
              refine ow_iload C dX7_film_62 rfl ?_
              exact ow_iret Z dX7_film_64 trivial hh
          · skip
            refine ow_iconst (v := (-1)) C dX7_film_43 rfl ?_
            exact ow_iret Z dX7_film_44 trivial hh
def tr_X7_film : aw_T := fun as h Q => ∃ (p0 : Nat) (x1 : Int32) (x2 : Int32) (x3 : Int32) (x4 : Int32) (x5 : Int32), as = [.ref p0, .int x1, .int x2, .int x3, .int x4, .int x5] ∧ (∀ (K68 : Nat → Int32 → Int32 → Int32 → Int32 → Int32 → aw_H → Prop), (∀ (p0 : Nat) (x1 : Int32) (x2 : Int32) (x3 : Int32) (x5 : Int32) (x7 : Int32) (h : aw_H), sm_X7_film_68 K68 Q p0 x1 x2 x3 x5 x7 h → K68 p0 x1 x2 x3 x5 x7 h) → sm_X7_film_0 K68 Q p0 x1 x2 x3 x4 x5 h)
theorem tq_X7_film {p0 : Nat} {x1 : Int32} {x2 : Int32} {x3 : Int32} {x4 : Int32} {x5 : Int32} {h : aw_H} {Q : aw_R} : tr_X7_film [.ref p0, .int x1, .int x2, .int x3, .int x4, .int x5] h Q ↔ (∀ (K68 : Nat → Int32 → Int32 → Int32 → Int32 → Int32 → aw_H → Prop), (∀ (p0 : Nat) (x1 : Int32) (x2 : Int32) (x3 : Int32) (x5 : Int32) (x7 : Int32) (h : aw_H), sm_X7_film_68 K68 Q p0 x1 x2 x3 x5 x7 h → K68 p0 x1 x2 x3 x5 x7 h) → sm_X7_film_0 K68 Q p0 x1 x2 x3 x4 x5 h) := by
  constructor
  · rintro ⟨_, _, _, _, _, _, as0, hh⟩
    cases as0
    exact hh
  · intro hh
    exact ⟨_, _, _, _, _, _, rfl, hh⟩
theorem ct_X7_film (E : aw_F) : CT E yX7_film cX7_film 8 (some .int) 5 tr_X7_film := by
  refine ct_of (by decide) ?_
  intro X Q as h hE C Z hG
  subst hE
  obtain ⟨p0, x1, x2, x3, x4, x5, rfl, hh⟩ := hG
  refine ⟨[.ref p0, .int x1, .int x2, .int x3, .int x4, .int x5, Value.null, Value.null], rfl, Nat.le_of_ble_eq_true rfl, ?_⟩
  exact bl_X7_film_0 C Z p0 x1 x2 x3 x4 x5 h (hh (fun (p0 : Nat) (x1 : Int32) (x2 : Int32) (x3 : Int32) (x5 : Int32) (x7 : Int32) (h : aw_H) => Sat X 68 [.ref p0, .int x1, .int x2, .int x3, Value.null, .int x5, Value.null, .int x7] [] h) (fun p0 x1 x2 x3 x5 x7 h hh => bl_X7_film_68 C Z p0 x1 x2 x3 x5 x7 h hh))
theorem cv_X7_film (E : aw_F) : CV E yX7_film cX7_film 8 (some .int) 5 5 6 tr_X7_film := ⟨ct_X7_film E, by decide, kw_835, kw_836, kw_527, kw_834, by decide +kernel, _, _, rfl⟩
theorem dX7_sheet_0 : decode cX7_sheet 0 = .ok (.iload_n 1, 1) := by decide +kernel
theorem dX7_sheet_1 : decode cX7_sheet 1 = .ok (.invokestatic 208, 3) := by decide +kernel
theorem dX7_sheet_4 : decode cX7_sheet 4 = .ok (.ifCond .eq 16, 3) := by decide +kernel
theorem dX7_sheet_7 : decode cX7_sheet 7 = .ok (.iload_n 2, 1) := by decide +kernel
theorem dX7_sheet_8 : decode cX7_sheet 8 = .ok (.invokestatic 211, 3) := by decide +kernel
theorem dX7_sheet_11 : decode cX7_sheet 11 = .ok (.ifCond .eq 9, 3) := by decide +kernel
theorem dX7_sheet_14 : decode cX7_sheet 14 = .ok (.iload_n 3, 1) := by decide +kernel
theorem dX7_sheet_15 : decode cX7_sheet 15 = .ok (.bipush 24, 2) := by decide +kernel
theorem dX7_sheet_17 : decode cX7_sheet 17 = .ok (.if_icmp .le 5, 3) := by decide +kernel
theorem dX7_sheet_20 : decode cX7_sheet 20 = .ok (.iconst (-1), 1) := by decide +kernel
theorem dX7_sheet_21 : decode cX7_sheet 21 = .ok (.ireturn, 1) := by decide +kernel
theorem dX7_sheet_22 : decode cX7_sheet 22 = .ok (.iload_n 3, 1) := by decide +kernel
theorem dX7_sheet_23 : decode cX7_sheet 23 = .ok (.ifCond .ge 6, 3) := by decide +kernel
theorem dX7_sheet_26 : decode cX7_sheet 26 = .ok (.bipush (-14), 2) := by decide +kernel
theorem dX7_sheet_28 : decode cX7_sheet 28 = .ok (.ireturn, 1) := by decide +kernel
theorem dX7_sheet_29 : decode cX7_sheet 29 = .ok (.aload_n 0, 1) := by decide +kernel
theorem dX7_sheet_30 : decode cX7_sheet 30 = .ok (.getfield 20, 3) := by decide +kernel
theorem dX7_sheet_33 : decode cX7_sheet 33 = .ok (.iload_n 1, 1) := by decide +kernel
theorem dX7_sheet_34 : decode cX7_sheet 34 = .ok (.iload_n 2, 1) := by decide +kernel
theorem dX7_sheet_35 : decode cX7_sheet 35 = .ok (.iastore, 1) := by decide +kernel
theorem dX7_sheet_36 : decode cX7_sheet 36 = .ok (.aload_n 0, 1) := by decide +kernel
theorem dX7_sheet_37 : decode cX7_sheet 37 = .ok (.getfield 23, 3) := by decide +kernel
theorem dX7_sheet_40 : decode cX7_sheet 40 = .ok (.iload_n 1, 1) := by decide +kernel
theorem dX7_sheet_41 : decode cX7_sheet 41 = .ok (.iload_n 3, 1) := by decide +kernel
theorem dX7_sheet_42 : decode cX7_sheet 42 = .ok (.iastore, 1) := by decide +kernel
theorem dX7_sheet_43 : decode cX7_sheet 43 = .ok (.iconst 0, 1) := by decide +kernel
theorem dX7_sheet_44 : decode cX7_sheet 44 = .ok (.istore 4, 2) := by decide +kernel
theorem dX7_sheet_46 : decode cX7_sheet 46 = .ok (.iload 4, 2) := by decide +kernel
theorem dX7_sheet_48 : decode cX7_sheet 48 = .ok (.iload_n 3, 1) := by decide +kernel
theorem dX7_sheet_49 : decode cX7_sheet 49 = .ok (.if_icmp .ge 22, 3) := by decide +kernel
theorem dX7_sheet_52 : decode cX7_sheet 52 = .ok (.aload_n 0, 1) := by decide +kernel
theorem dX7_sheet_53 : decode cX7_sheet 53 = .ok (.getfield 16, 3) := by decide +kernel
theorem dX7_sheet_56 : decode cX7_sheet 56 = .ok (.bipush 24, 2) := by decide +kernel
theorem dX7_sheet_58 : decode cX7_sheet 58 = .ok (.iload_n 1, 1) := by decide +kernel
theorem dX7_sheet_59 : decode cX7_sheet 59 = .ok (.imul, 1) := by decide +kernel
theorem dX7_sheet_60 : decode cX7_sheet 60 = .ok (.iload 4, 2) := by decide +kernel
theorem dX7_sheet_62 : decode cX7_sheet 62 = .ok (.iadd, 1) := by decide +kernel
theorem dX7_sheet_63 : decode cX7_sheet 63 = .ok (.lconst 0, 1) := by decide +kernel
theorem dX7_sheet_64 : decode cX7_sheet 64 = .ok (.lastore, 1) := by decide +kernel
theorem dX7_sheet_65 : decode cX7_sheet 65 = .ok (.iinc 4 1, 3) := by decide +kernel
theorem dX7_sheet_68 : decode cX7_sheet 68 = .ok (.goto (-22), 3) := by decide +kernel
theorem dX7_sheet_71 : decode cX7_sheet 71 = .ok (.iload_n 3, 1) := by decide +kernel
theorem dX7_sheet_72 : decode cX7_sheet 72 = .ok (.ireturn, 1) := by decide +kernel
def sm_X7_sheet_46 (K46 : Nat → Int32 → Int32 → Int32 → aw_H → Prop) (Q : aw_R) (p0 : Nat) (x1 : Int32) (x3 : Int32) (x4 : Int32) (h : aw_H) : Prop :=
  if x3 ≤ x4 then (Q (some (.int x3)) h) else (sg_R h p0 6 4 fun q1 => ss_L h q1 ((24 * x1) + x4) 0 fun h2 => K46 p0 x1 x3 (x4 + 1) h2)
set_option maxRecDepth 100000 in
set_option maxHeartbeats 4000000 in
theorem bl_X7_sheet_46 {X : aw_X} {Q : aw_R} (C : aw_C X cX7_sheet RX7 5 2) (Z : aw_Z X cX7_sheet (some .int) Q) (p0 : Nat) (x1 : Int32) (x3 : Int32) (x4 : Int32) (h : aw_H) (hh : sm_X7_sheet_46 (fun (p0 : Nat) (x1 : Int32) (x3 : Int32) (x4 : Int32) (h : aw_H) => Sat X 46 [.ref p0, .int x1, Value.null, .int x3, .int x4] [] h) Q p0 x1 x3 x4 h) : Sat X 46 [.ref p0, .int x1, Value.null, .int x3, .int x4] [] h := by
  unfold sm_X7_sheet_46 at hh
  refine ow_iload C dX7_sheet_46 rfl ?_
  refine ow_iload_n C dX7_sheet_48 rfl rfl ?_
  refine ow_icmp_ge (tgt := 71) C dX7_sheet_49 (by decide) hh (fun hh => ?_) (fun hh => ?_)
  · skip
    refine ow_iload_n C dX7_sheet_71 rfl rfl ?_
    exact ow_iret Z dX7_sheet_72 trivial hh
  · skip
    refine ow_aload_n C dX7_sheet_52 rfl rfl ?_
    refine ow_getR (ci := 6) (k := 4) (T := TX7) C rfl igX7 (by decide) kw_811 dX7_sheet_53 hh (fun q1 hh => ?_)
    refine ow_bipush (v := 24) C dX7_sheet_56 rfl ?_
    refine ow_iload_n C dX7_sheet_58 rfl rfl ?_
    refine ow_imul C dX7_sheet_59 ?_
    refine ow_iload C dX7_sheet_60 rfl ?_
    refine ow_iadd C dX7_sheet_62 ?_
    refine ow_lconst (v := 0) C dX7_sheet_63 rfl ?_
    refine ow_lastore C dX7_sheet_64 hh (fun h2 hh => ?_)
    refine ow_iinc (v := x4 + 1) (L' := [.ref p0, .int x1, Value.null, .int x3, .int (x4 + 1)]) C dX7_sheet_65 rfl rfl (by decide) rfl ?_
    refine ow_goto (tgt := 46) C dX7_sheet_68 (by decide) ?_
    exact Sat.mask hh (mk_y (mk_y (mk_n (mk_y (mk_y mk_0)))))
def sm_X7_sheet_0 (K46 : Nat → Int32 → Int32 → Int32 → aw_H → Prop) (Q : aw_R) (p0 : Nat) (x1 : Int32) (x2 : Int32) (x3 : Int32) (h : aw_H) : Prop :=
  tr_X7_isSheet [.int x1] h fun r2 h1 => sr_I r2 fun v3 => if v3 = 0 then (Q (some (.int ((-1)))) h1) else (tr_X7_isLane [.int x2] h1 fun r5 h4 => sr_I r5 fun v6 => if v6 = 0 then (Q (some (.int ((-1)))) h4) else (if x3 ≤ 24 then (if 0 ≤ x3 then (sg_R h4 p0 6 5 fun q7 => ss_I h4 q7 x1 x2 fun h8 => sg_R h8 p0 6 6 fun q9 => ss_I h8 q9 x1 x3 fun h10 => K46 p0 x1 x3 0 h10) else (Q (some (.int ((-14)))) h4)) else (Q (some (.int ((-1)))) h4)))
set_option maxRecDepth 100000 in
set_option maxHeartbeats 4000000 in
theorem bl_X7_sheet_0 {X : aw_X} {Q : aw_R} (C : aw_C X cX7_sheet RX7 5 2) (Z : aw_Z X cX7_sheet (some .int) Q) (p0 : Nat) (x1 : Int32) (x2 : Int32) (x3 : Int32) (h : aw_H) (hh : sm_X7_sheet_0 (fun (p0 : Nat) (x1 : Int32) (x3 : Int32) (x4 : Int32) (h : aw_H) => Sat X 46 [.ref p0, .int x1, Value.null, .int x3, .int x4] [] h) Q p0 x1 x2 x3 h) : Sat X 0 [.ref p0, .int x1, .int x2, .int x3, Value.null] [] h := by
  unfold sm_X7_sheet_0 at hh
  refine ow_iload_n C dX7_sheet_0 rfl rfl ?_
  refine ow_callS C (cs_X7_isSheet _) (Nat.le_of_ble_eq_true rfl) kw_825 dX7_sheet_1 (as := [.int x1]) (st := []) rfl rfl (Nat.le_of_ble_eq_true rfl) hh (fun r2 h1 hq => ?_)
  obtain ⟨v3, rfl, hh⟩ := sr_I_e hq
  show Sat X 4 [.ref p0, .int x1, .int x2, .int x3, Value.null] [.int v3] h1
  refine ow_if_eq (tgt := 20) C dX7_sheet_4 (by decide) hh (fun hh => ?_) (fun hh => ?_)
  · skip
    refine ow_iconst (v := (-1)) C dX7_sheet_20 rfl ?_
    exact ow_iret Z dX7_sheet_21 trivial hh
  · skip
    refine ow_iload_n C dX7_sheet_7 rfl rfl ?_
    refine ow_callS C (cs_X7_isLane _) (Nat.le_of_ble_eq_true rfl) kw_826 dX7_sheet_8 (as := [.int x2]) (st := []) rfl rfl (Nat.le_of_ble_eq_true rfl) hh (fun r5 h4 hq => ?_)
    obtain ⟨v6, rfl, hh⟩ := sr_I_e hq
    show Sat X 11 [.ref p0, .int x1, .int x2, .int x3, Value.null] [.int v6] h4
    refine ow_if_eq (tgt := 20) C dX7_sheet_11 (by decide) hh (fun hh => ?_) (fun hh => ?_)
    · skip
      refine ow_iconst (v := (-1)) C dX7_sheet_20 rfl ?_
      exact ow_iret Z dX7_sheet_21 trivial hh
    · skip
      refine ow_iload_n C dX7_sheet_14 rfl rfl ?_
      refine ow_bipush (v := 24) C dX7_sheet_15 rfl ?_
      refine ow_icmp_le (tgt := 22) C dX7_sheet_17 (by decide) hh (fun hh => ?_) (fun hh => ?_)
      · skip
        refine ow_iload_n C dX7_sheet_22 rfl rfl ?_
        refine ow_if_ge (tgt := 29) C dX7_sheet_23 (by decide) hh (fun hh => ?_) (fun hh => ?_)
        · skip
          refine ow_aload_n C dX7_sheet_29 rfl rfl ?_
          refine ow_getR (ci := 6) (k := 5) (T := TX7) C rfl igX7 (by decide) kw_807 dX7_sheet_30 hh (fun q7 hh => ?_)
          refine ow_iload_n C dX7_sheet_33 rfl rfl ?_
          refine ow_iload_n C dX7_sheet_34 rfl rfl ?_
          refine ow_iastore C dX7_sheet_35 hh (fun h8 hh => ?_)
          refine ow_aload_n C dX7_sheet_36 rfl rfl ?_
          refine ow_getR (ci := 6) (k := 6) (T := TX7) C rfl igX7 (by decide) kw_806 dX7_sheet_37 hh (fun q9 hh => ?_)
          refine ow_iload_n C dX7_sheet_40 rfl rfl ?_
          refine ow_iload_n C dX7_sheet_41 rfl rfl ?_
          refine ow_iastore C dX7_sheet_42 hh (fun h10 hh => ?_)
          refine ow_iconst (v := 0) C dX7_sheet_43 rfl ?_
          refine ow_istore (L' := [.ref p0, .int x1, .int x2, .int x3, .int 0]) C dX7_sheet_44 (by decide) rfl ?_
          exact Sat.mask hh (mk_y (mk_y (mk_n (mk_y (mk_y mk_0)))))
        · skip
          refine ow_bipush (v := (-14)) C dX7_sheet_26 rfl ?_
          exact ow_iret Z dX7_sheet_28 trivial hh
      · skip
        refine ow_iconst (v := (-1)) C dX7_sheet_20 rfl ?_
        exact ow_iret Z dX7_sheet_21 trivial hh
def tr_X7_sheet : aw_T := fun as h Q => ∃ (p0 : Nat) (x1 : Int32) (x2 : Int32) (x3 : Int32), as = [.ref p0, .int x1, .int x2, .int x3] ∧ (∀ (K46 : Nat → Int32 → Int32 → Int32 → aw_H → Prop), (∀ (p0 : Nat) (x1 : Int32) (x3 : Int32) (x4 : Int32) (h : aw_H), sm_X7_sheet_46 K46 Q p0 x1 x3 x4 h → K46 p0 x1 x3 x4 h) → sm_X7_sheet_0 K46 Q p0 x1 x2 x3 h)
theorem tq_X7_sheet {p0 : Nat} {x1 : Int32} {x2 : Int32} {x3 : Int32} {h : aw_H} {Q : aw_R} : tr_X7_sheet [.ref p0, .int x1, .int x2, .int x3] h Q ↔ (∀ (K46 : Nat → Int32 → Int32 → Int32 → aw_H → Prop), (∀ (p0 : Nat) (x1 : Int32) (x3 : Int32) (x4 : Int32) (h : aw_H), sm_X7_sheet_46 K46 Q p0 x1 x3 x4 h → K46 p0 x1 x3 x4 h) → sm_X7_sheet_0 K46 Q p0 x1 x2 x3 h) := by
  constructor
  · rintro ⟨_, _, _, _, as0, hh⟩
    cases as0
    exact hh
  · intro hh
    exact ⟨_, _, _, _, rfl, hh⟩
theorem ct_X7_sheet (E : aw_F) : CT E yX7_sheet cX7_sheet 5 (some .int) 2 tr_X7_sheet := by
  refine ct_of (by decide) ?_
  intro X Q as h hE C Z hG
  subst hE
  obtain ⟨p0, x1, x2, x3, rfl, hh⟩ := hG
  refine ⟨[.ref p0, .int x1, .int x2, .int x3, Value.null], rfl, Nat.le_of_ble_eq_true rfl, ?_⟩
  exact bl_X7_sheet_0 C Z p0 x1 x2 x3 h (hh (fun (p0 : Nat) (x1 : Int32) (x3 : Int32) (x4 : Int32) (h : aw_H) => Sat X 46 [.ref p0, .int x1, Value.null, .int x3, .int x4] [] h) (fun p0 x1 x3 x4 h hh => bl_X7_sheet_46 C Z p0 x1 x3 x4 h hh))
theorem cv_X7_sheet (E : aw_F) : CV E yX7_sheet cX7_sheet 5 (some .int) 2 3 6 tr_X7_sheet := ⟨ct_X7_sheet E, by decide, kw_838, kw_839, kw_527, kw_837, by decide +kernel, _, _, rfl⟩
theorem dX7_drop_0 : decode cX7_drop 0 = .ok (.iload_n 1, 1) := by decide +kernel
theorem dX7_drop_1 : decode cX7_drop 1 = .ok (.invokestatic 208, 3) := by decide +kernel
theorem dX7_drop_4 : decode cX7_drop 4 = .ok (.ifCond .ne 5, 3) := by decide +kernel
theorem dX7_drop_7 : decode cX7_drop 7 = .ok (.iconst (-1), 1) := by decide +kernel
theorem dX7_drop_8 : decode cX7_drop 8 = .ok (.ireturn, 1) := by decide +kernel
theorem dX7_drop_9 : decode cX7_drop 9 = .ok (.aload_n 0, 1) := by decide +kernel
theorem dX7_drop_10 : decode cX7_drop 10 = .ok (.getfield 23, 3) := by decide +kernel
theorem dX7_drop_13 : decode cX7_drop 13 = .ok (.iload_n 1, 1) := by decide +kernel
theorem dX7_drop_14 : decode cX7_drop 14 = .ok (.iaload, 1) := by decide +kernel
theorem dX7_drop_15 : decode cX7_drop 15 = .ok (.bipush (-4), 2) := by decide +kernel
theorem dX7_drop_17 : decode cX7_drop 17 = .ok (.if_icmp .ne 6, 3) := by decide +kernel
theorem dX7_drop_20 : decode cX7_drop 20 = .ok (.bipush (-11), 2) := by decide +kernel
theorem dX7_drop_22 : decode cX7_drop 22 = .ok (.ireturn, 1) := by decide +kernel
theorem dX7_drop_23 : decode cX7_drop 23 = .ok (.aload_n 0, 1) := by decide +kernel
theorem dX7_drop_24 : decode cX7_drop 24 = .ok (.getfield 23, 3) := by decide +kernel
theorem dX7_drop_27 : decode cX7_drop 27 = .ok (.iload_n 1, 1) := by decide +kernel
theorem dX7_drop_28 : decode cX7_drop 28 = .ok (.iaload, 1) := by decide +kernel
theorem dX7_drop_29 : decode cX7_drop 29 = .ok (.istore_n 2, 1) := by decide +kernel
theorem dX7_drop_30 : decode cX7_drop 30 = .ok (.aload_n 0, 1) := by decide +kernel
theorem dX7_drop_31 : decode cX7_drop 31 = .ok (.getfield 23, 3) := by decide +kernel
theorem dX7_drop_34 : decode cX7_drop 34 = .ok (.iload_n 1, 1) := by decide +kernel
theorem dX7_drop_35 : decode cX7_drop 35 = .ok (.bipush (-4), 2) := by decide +kernel
theorem dX7_drop_37 : decode cX7_drop 37 = .ok (.iastore, 1) := by decide +kernel
theorem dX7_drop_38 : decode cX7_drop 38 = .ok (.iload_n 2, 1) := by decide +kernel
theorem dX7_drop_39 : decode cX7_drop 39 = .ok (.ireturn, 1) := by decide +kernel
def sm_X7_drop_0  (Q : aw_R) (p0 : Nat) (x1 : Int32) (h : aw_H) : Prop :=
  tr_X7_isSheet [.int x1] h fun r2 h1 => sr_I r2 fun v3 => if ¬ v3 = 0 then (sg_R h1 p0 6 6 fun q4 => sa_I h1 q4 x1 fun v5 => if ¬ v5 = ((-4)) then (sg_R h1 p0 6 6 fun q6 => sa_I h1 q6 x1 fun v7 => sg_R h1 p0 6 6 fun q8 => ss_I h1 q8 x1 ((-4)) fun h9 => Q (some (.int v7)) h9) else (Q (some (.int ((-11)))) h1)) else (Q (some (.int ((-1)))) h1)
set_option maxRecDepth 100000 in
set_option maxHeartbeats 4000000 in
theorem bl_X7_drop_0 {X : aw_X} {Q : aw_R} (C : aw_C X cX7_drop RX7 3 2) (Z : aw_Z X cX7_drop (some .int) Q) (p0 : Nat) (x1 : Int32) (h : aw_H) (hh : sm_X7_drop_0  Q p0 x1 h) : Sat X 0 [.ref p0, .int x1, Value.null] [] h := by
  unfold sm_X7_drop_0 at hh
  refine ow_iload_n C dX7_drop_0 rfl rfl ?_
  refine ow_callS C (cs_X7_isSheet _) (Nat.le_of_ble_eq_true rfl) kw_825 dX7_drop_1 (as := [.int x1]) (st := []) rfl rfl (Nat.le_of_ble_eq_true rfl) hh (fun r2 h1 hq => ?_)
  obtain ⟨v3, rfl, hh⟩ := sr_I_e hq
  show Sat X 4 [.ref p0, .int x1, Value.null] [.int v3] h1
  refine ow_if_ne (tgt := 9) C dX7_drop_4 (by decide) hh (fun hh => ?_) (fun hh => ?_)
  · skip
    refine ow_aload_n C dX7_drop_9 rfl rfl ?_
    refine ow_getR (ci := 6) (k := 6) (T := TX7) C rfl igX7 (by decide) kw_806 dX7_drop_10 hh (fun q4 hh => ?_)
    refine ow_iload_n C dX7_drop_13 rfl rfl ?_
    refine ow_iaload C dX7_drop_14 hh (fun v5 hh => ?_)
    refine ow_bipush (v := (-4)) C dX7_drop_15 rfl ?_
    refine ow_icmp_ne (tgt := 23) C dX7_drop_17 (by decide) hh (fun hh => ?_) (fun hh => ?_)
    · skip
      refine ow_aload_n C dX7_drop_23 rfl rfl ?_
      refine ow_getR (ci := 6) (k := 6) (T := TX7) C rfl igX7 (by decide) kw_806 dX7_drop_24 hh (fun q6 hh => ?_)
      refine ow_iload_n C dX7_drop_27 rfl rfl ?_
      refine ow_iaload C dX7_drop_28 hh (fun v7 hh => ?_)
      refine ow_istore_n (L' := [.ref p0, .int x1, .int v7]) C dX7_drop_29 rfl (by decide) rfl ?_
      refine ow_aload_n C dX7_drop_30 rfl rfl ?_
      refine ow_getR (ci := 6) (k := 6) (T := TX7) C rfl igX7 (by decide) kw_806 dX7_drop_31 hh (fun q8 hh => ?_)
      refine ow_iload_n C dX7_drop_34 rfl rfl ?_
      refine ow_bipush (v := (-4)) C dX7_drop_35 rfl ?_
      refine ow_iastore C dX7_drop_37 hh (fun h9 hh => ?_)
      refine ow_iload_n C dX7_drop_38 rfl rfl ?_
      exact ow_iret Z dX7_drop_39 trivial hh
    · skip
      refine ow_bipush (v := (-11)) C dX7_drop_20 rfl ?_
      exact ow_iret Z dX7_drop_22 trivial hh
  · skip
    refine ow_iconst (v := (-1)) C dX7_drop_7 rfl ?_
    exact ow_iret Z dX7_drop_8 trivial hh
def tr_X7_drop : aw_T := fun as h Q => ∃ (p0 : Nat) (x1 : Int32), as = [.ref p0, .int x1] ∧ (sm_X7_drop_0  Q p0 x1 h)
theorem tq_X7_drop {p0 : Nat} {x1 : Int32} {h : aw_H} {Q : aw_R} : tr_X7_drop [.ref p0, .int x1] h Q ↔ (sm_X7_drop_0  Q p0 x1 h) := by
  constructor
  · rintro ⟨_, _, as0, hh⟩
    cases as0
    exact hh
  · intro hh
    exact ⟨_, _, rfl, hh⟩
theorem ct_X7_drop (E : aw_F) : CT E yX7_drop cX7_drop 3 (some .int) 2 tr_X7_drop := by
  refine ct_of (by decide) ?_
  intro X Q as h hE C Z hG
  subst hE
  obtain ⟨p0, x1, rfl, hh⟩ := hG
  refine ⟨[.ref p0, .int x1, Value.null], rfl, Nat.le_of_ble_eq_true rfl, ?_⟩
  exact bl_X7_drop_0 C Z p0 x1 h hh
theorem cv_X7_drop (E : aw_F) : CV E yX7_drop cX7_drop 3 (some .int) 2 1 6 tr_X7_drop := ⟨ct_X7_drop E, by decide, kw_841, kw_842, kw_527, kw_840, by decide +kernel, _, _, rfl⟩
theorem dX7_item_0 : decode cX7_item 0 = .ok (.iload_n 1, 1) := by decide +kernel
theorem dX7_item_1 : decode cX7_item 1 = .ok (.invokestatic 208, 3) := by decide +kernel
theorem dX7_item_4 : decode cX7_item 4 = .ok (.ifCond .eq 10, 3) := by decide +kernel
theorem dX7_item_7 : decode cX7_item 7 = .ok (.iload_n 2, 1) := by decide +kernel
theorem dX7_item_8 : decode cX7_item 8 = .ok (.invokestatic 211, 3) := by decide +kernel
theorem dX7_item_11 : decode cX7_item 11 = .ok (.ifCond .ne 5, 3) := by decide +kernel
theorem dX7_item_14 : decode cX7_item 14 = .ok (.iconst (-1), 1) := by decide +kernel
theorem dX7_item_15 : decode cX7_item 15 = .ok (.ireturn, 1) := by decide +kernel
theorem dX7_item_16 : decode cX7_item 16 = .ok (.aload_n 0, 1) := by decide +kernel
theorem dX7_item_17 : decode cX7_item 17 = .ok (.iload_n 1, 1) := by decide +kernel
theorem dX7_item_18 : decode cX7_item 18 = .ok (.iload_n 2, 1) := by decide +kernel
theorem dX7_item_19 : decode cX7_item 19 = .ok (.iload_n 3, 1) := by decide +kernel
theorem dX7_item_20 : decode cX7_item 20 = .ok (.iconst 1, 1) := by decide +kernel
theorem dX7_item_21 : decode cX7_item 21 = .ok (.invokevirtual 214, 3) := by decide +kernel
theorem dX7_item_24 : decode cX7_item 24 = .ok (.istore 6, 2) := by decide +kernel
theorem dX7_item_26 : decode cX7_item 26 = .ok (.iload 6, 2) := by decide +kernel
theorem dX7_item_28 : decode cX7_item 28 = .ok (.ifCond .ge 6, 3) := by decide +kernel
theorem dX7_item_31 : decode cX7_item 31 = .ok (.iload 6, 2) := by decide +kernel
theorem dX7_item_33 : decode cX7_item 33 = .ok (.ireturn, 1) := by decide +kernel
theorem dX7_item_34 : decode cX7_item 34 = .ok (.aload_n 0, 1) := by decide +kernel
theorem dX7_item_35 : decode cX7_item 35 = .ok (.getfield 16, 3) := by decide +kernel
theorem dX7_item_38 : decode cX7_item 38 = .ok (.bipush 24, 2) := by decide +kernel
theorem dX7_item_40 : decode cX7_item 40 = .ok (.iload_n 1, 1) := by decide +kernel
theorem dX7_item_41 : decode cX7_item 41 = .ok (.imul, 1) := by decide +kernel
theorem dX7_item_42 : decode cX7_item 42 = .ok (.iload_n 3, 1) := by decide +kernel
theorem dX7_item_43 : decode cX7_item 43 = .ok (.iadd, 1) := by decide +kernel
theorem dX7_item_44 : decode cX7_item 44 = .ok (.iload_n 2, 1) := by decide +kernel
theorem dX7_item_45 : decode cX7_item 45 = .ok (.ifCond .ne 11, 3) := by decide +kernel
theorem dX7_item_48 : decode cX7_item 48 = .ok (.lload 4, 2) := by decide +kernel
theorem dX7_item_50 : decode cX7_item 50 = .ok (.l2i, 1) := by decide +kernel
theorem dX7_item_51 : decode cX7_item 51 = .ok (.i2b, 1) := by decide +kernel
theorem dX7_item_52 : decode cX7_item 52 = .ok (.i2l, 1) := by decide +kernel
theorem dX7_item_53 : decode cX7_item 53 = .ok (.goto 30, 3) := by decide +kernel
theorem dX7_item_56 : decode cX7_item 56 = .ok (.iload_n 2, 1) := by decide +kernel
theorem dX7_item_57 : decode cX7_item 57 = .ok (.iconst 1, 1) := by decide +kernel
theorem dX7_item_58 : decode cX7_item 58 = .ok (.if_icmp .ne 11, 3) := by decide +kernel
theorem dX7_item_61 : decode cX7_item 61 = .ok (.lload 4, 2) := by decide +kernel
theorem dX7_item_63 : decode cX7_item 63 = .ok (.l2i, 1) := by decide +kernel
theorem dX7_item_64 : decode cX7_item 64 = .ok (.i2s, 1) := by decide +kernel
theorem dX7_item_65 : decode cX7_item 65 = .ok (.i2l, 1) := by decide +kernel
theorem dX7_item_66 : decode cX7_item 66 = .ok (.goto 17, 3) := by decide +kernel
theorem dX7_item_69 : decode cX7_item 69 = .ok (.iload_n 2, 1) := by decide +kernel
theorem dX7_item_70 : decode cX7_item 70 = .ok (.iconst 2, 1) := by decide +kernel
theorem dX7_item_71 : decode cX7_item 71 = .ok (.if_icmp .ne 10, 3) := by decide +kernel
theorem dX7_item_74 : decode cX7_item 74 = .ok (.lload 4, 2) := by decide +kernel
theorem dX7_item_76 : decode cX7_item 76 = .ok (.l2i, 1) := by decide +kernel
theorem dX7_item_77 : decode cX7_item 77 = .ok (.i2l, 1) := by decide +kernel
theorem dX7_item_78 : decode cX7_item 78 = .ok (.goto 5, 3) := by decide +kernel
theorem dX7_item_81 : decode cX7_item 81 = .ok (.lload 4, 2) := by decide +kernel
theorem dX7_item_83 : decode cX7_item 83 = .ok (.lastore, 1) := by decide +kernel
theorem dX7_item_84 : decode cX7_item 84 = .ok (.iconst 1, 1) := by decide +kernel
theorem dX7_item_85 : decode cX7_item 85 = .ok (.ireturn, 1) := by decide +kernel
def sm_X7_item_0  (Q : aw_R) (p0 : Nat) (x1 : Int32) (x2 : Int32) (x3 : Int32) (w4 : Int64) (h : aw_H) : Prop :=
  tr_X7_isSheet [.int x1] h fun r2 h1 => sr_I r2 fun v3 => if v3 = 0 then (Q (some (.int ((-1)))) h1) else (tr_X7_isLane [.int x2] h1 fun r5 h4 => sr_I r5 fun v6 => if ¬ v6 = 0 then (sv_O h4 p0 6 (tr_X7_found [.ref p0, .int x1, .int x2, .int x3, .int 1] h4 fun r8 h7 => sr_I r8 fun v9 => if 0 ≤ v9 then (sg_R h7 p0 6 4 fun q10 => if ¬ x2 = 0 then (if ¬ x2 = 1 then (if ¬ x2 = 2 then (ss_L h7 q10 ((24 * x1) + x3) w4 fun h11 => Q (some (.int 1)) h11) else (ss_L h7 q10 ((24 * x1) + x3) (Int32.toInt64 (Int64.toInt32 w4)) fun h12 => Q (some (.int 1)) h12)) else (ss_L h7 q10 ((24 * x1) + x3) (Int32.toInt64 ((Int32.toInt16 (Int64.toInt32 w4)).toInt32)) fun h13 => Q (some (.int 1)) h13)) else (ss_L h7 q10 ((24 * x1) + x3) (Int32.toInt64 ((Int32.toInt8 (Int64.toInt32 w4)).toInt32)) fun h14 => Q (some (.int 1)) h14)) else (Q (some (.int v9)) h7))) else (Q (some (.int ((-1)))) h4))
set_option maxRecDepth 100000 in
set_option maxHeartbeats 4000000 in
theorem bl_X7_item_0 {X : aw_X} {Q : aw_R} (C : aw_C X cX7_item RX7 7 2) (Z : aw_Z X cX7_item (some .int) Q) (p0 : Nat) (x1 : Int32) (x2 : Int32) (x3 : Int32) (w4 : Int64) (h : aw_H) (hh : sm_X7_item_0  Q p0 x1 x2 x3 w4 h) : Sat X 0 [.ref p0, .int x1, .int x2, .int x3, .long w4, Value.null, Value.null] [] h := by
  unfold sm_X7_item_0 at hh
  refine ow_iload_n C dX7_item_0 rfl rfl ?_
  refine ow_callS C (cs_X7_isSheet _) (Nat.le_of_ble_eq_true rfl) kw_825 dX7_item_1 (as := [.int x1]) (st := []) rfl rfl (Nat.le_of_ble_eq_true rfl) hh (fun r2 h1 hq => ?_)
  obtain ⟨v3, rfl, hh⟩ := sr_I_e hq
  show Sat X 4 [.ref p0, .int x1, .int x2, .int x3, .long w4, Value.null, Value.null] [.int v3] h1
  refine ow_if_eq (tgt := 14) C dX7_item_4 (by decide) hh (fun hh => ?_) (fun hh => ?_)
  · skip
    refine ow_iconst (v := (-1)) C dX7_item_14 rfl ?_
    exact ow_iret Z dX7_item_15 trivial hh
  · skip
    refine ow_iload_n C dX7_item_7 rfl rfl ?_
    refine ow_callS C (cs_X7_isLane _) (Nat.le_of_ble_eq_true rfl) kw_826 dX7_item_8 (as := [.int x2]) (st := []) rfl rfl (Nat.le_of_ble_eq_true rfl) hh (fun r5 h4 hq => ?_)
    obtain ⟨v6, rfl, hh⟩ := sr_I_e hq
    show Sat X 11 [.ref p0, .int x1, .int x2, .int x3, .long w4, Value.null, Value.null] [.int v6] h4
    refine ow_if_ne (tgt := 16) C dX7_item_11 (by decide) hh (fun hh => ?_) (fun hh => ?_)
    · skip
      refine ow_aload_n C dX7_item_16 rfl rfl ?_
      refine ow_iload_n C dX7_item_17 rfl rfl ?_
      refine ow_iload_n C dX7_item_18 rfl rfl ?_
      refine ow_iload_n C dX7_item_19 rfl rfl ?_
      refine ow_iconst (v := 1) C dX7_item_20 rfl ?_
      refine ow_callV C (cv_X7_found _) (Nat.le_of_ble_eq_true rfl) kw_827 dX7_item_21 (as := [.int x1, .int x2, .int x3, .int 1]) (st := []) rfl rfl (Nat.le_of_ble_eq_true rfl) hh (fun r8 h7 hq => ?_)
      obtain ⟨v9, rfl, hh⟩ := sr_I_e hq
      show Sat X 24 [.ref p0, .int x1, .int x2, .int x3, .long w4, Value.null, Value.null] [.int v9] h7
      refine ow_istore (L' := [.ref p0, .int x1, .int x2, .int x3, .long w4, Value.null, .int v9]) C dX7_item_24 (by decide) rfl ?_
      refine ow_iload C dX7_item_26 rfl ?_
      refine ow_if_ge (tgt := 34) C dX7_item_28 (by decide) hh (fun hh => ?_) (fun hh => ?_)
      · skip
        refine ow_aload_n C dX7_item_34 rfl rfl ?_
        refine ow_getR (ci := 6) (k := 4) (T := TX7) C rfl igX7 (by decide) kw_811 dX7_item_35 hh (fun q10 hh => ?_)
        refine ow_bipush (v := 24) C dX7_item_38 rfl ?_
        refine ow_iload_n C dX7_item_40 rfl rfl ?_
        refine ow_imul C dX7_item_41 ?_
        refine ow_iload_n C dX7_item_42 rfl rfl ?_
        refine ow_iadd C dX7_item_43 ?_
        refine ow_iload_n C dX7_item_44 rfl rfl ?_
        refine ow_if_ne (tgt := 56) C dX7_item_45 (by decide) hh (fun hh => ?_) (fun hh => ?_)
        · skip
          refine ow_iload_n C dX7_item_56 rfl rfl ?_
          refine ow_iconst (v := 1) C dX7_item_57 rfl ?_
          refine ow_icmp_ne (tgt := 69) C dX7_item_58 (by decide) hh (fun hh => ?_) (fun hh => ?_)
          · skip
            refine ow_iload_n C dX7_item_69 rfl rfl ?_
            refine ow_iconst (v := 2) C dX7_item_70 rfl ?_
            refine ow_icmp_ne (tgt := 81) C dX7_item_71 (by decide) hh (fun hh => ?_) (fun hh => ?_)
            · skip
              refine ow_lload C dX7_item_81 rfl ?_
              refine ow_lastore C dX7_item_83 hh (fun h11 hh => ?_)
              refine ow_iconst (v := 1) C dX7_item_84 rfl ?_
              exact ow_iret Z dX7_item_85 trivial hh
            · skip
              refine ow_lload C dX7_item_74 rfl ?_
              refine ow_l2i C dX7_item_76 ?_
              refine ow_i2l C dX7_item_77 ?_
              refine ow_goto (tgt := 83) C dX7_item_78 (by decide) ?_
              refine ow_lastore C dX7_item_83 hh (fun h12 hh => ?_)
              refine ow_iconst (v := 1) C dX7_item_84 rfl ?_
              exact ow_iret Z dX7_item_85 trivial hh
          · skip
            refine ow_lload C dX7_item_61 rfl ?_
            refine ow_l2i C dX7_item_63 ?_
            refine ow_i2s C dX7_item_64 ?_
            refine ow_i2l C dX7_item_65 ?_
            refine ow_goto (tgt := 83) C dX7_item_66 (by decide) ?_
            refine ow_lastore C dX7_item_83 hh (fun h13 hh => ?_)
            refine ow_iconst (v := 1) C dX7_item_84 rfl ?_
            exact ow_iret Z dX7_item_85 trivial hh
        · skip
          refine ow_lload C dX7_item_48 rfl ?_
          refine ow_l2i C dX7_item_50 ?_
          refine ow_i2b C dX7_item_51 ?_
          refine ow_i2l C dX7_item_52 ?_
          refine ow_goto (tgt := 83) C dX7_item_53 (by decide) ?_
          refine ow_lastore C dX7_item_83 hh (fun h14 hh => ?_)
          refine ow_iconst (v := 1) C dX7_item_84 rfl ?_
          exact ow_iret Z dX7_item_85 trivial hh
      · skip
        refine ow_iload C dX7_item_31 rfl ?_
        exact ow_iret Z dX7_item_33 trivial hh
    · skip
      refine ow_iconst (v := (-1)) C dX7_item_14 rfl ?_
      exact ow_iret Z dX7_item_15 trivial hh
def tr_X7_item : aw_T := fun as h Q => ∃ (p0 : Nat) (x1 : Int32) (x2 : Int32) (x3 : Int32) (w4 : Int64), as = [.ref p0, .int x1, .int x2, .int x3, .long w4] ∧ (sm_X7_item_0  Q p0 x1 x2 x3 w4 h)
theorem tq_X7_item {p0 : Nat} {x1 : Int32} {x2 : Int32} {x3 : Int32} {w4 : Int64} {h : aw_H} {Q : aw_R} : tr_X7_item [.ref p0, .int x1, .int x2, .int x3, .long w4] h Q ↔ (sm_X7_item_0  Q p0 x1 x2 x3 w4 h) := by
  constructor
  · rintro ⟨_, _, _, _, _, as0, hh⟩
    cases as0
    exact hh
  · intro hh
    exact ⟨_, _, _, _, _, rfl, hh⟩
theorem ct_X7_item (E : aw_F) : CT E yX7_item cX7_item 7 (some .int) 2 tr_X7_item := by
  refine ct_of (by decide) ?_
  intro X Q as h hE C Z hG
  subst hE
  obtain ⟨p0, x1, x2, x3, w4, rfl, hh⟩ := hG
  refine ⟨[.ref p0, .int x1, .int x2, .int x3, .long w4, Value.null, Value.null], rfl, Nat.le_of_ble_eq_true rfl, ?_⟩
  exact bl_X7_item_0 C Z p0 x1 x2 x3 w4 h hh
theorem cv_X7_item (E : aw_F) : CV E yX7_item cX7_item 7 (some .int) 2 4 6 tr_X7_item := ⟨ct_X7_item E, by decide, kw_844, kw_845, kw_527, kw_843, by decide +kernel, _, _, rfl⟩
theorem dX7_copy_0 : decode cX7_copy 0 = .ok (.iload_n 1, 1) := by decide +kernel
theorem dX7_copy_1 : decode cX7_copy 1 = .ok (.invokestatic 208, 3) := by decide +kernel
theorem dX7_copy_4 : decode cX7_copy 4 = .ok (.ifCond .eq 10, 3) := by decide +kernel
theorem dX7_copy_7 : decode cX7_copy 7 = .ok (.iload_n 3, 1) := by decide +kernel
theorem dX7_copy_8 : decode cX7_copy 8 = .ok (.invokestatic 208, 3) := by decide +kernel
theorem dX7_copy_11 : decode cX7_copy 11 = .ok (.ifCond .ne 5, 3) := by decide +kernel
theorem dX7_copy_14 : decode cX7_copy 14 = .ok (.iconst (-1), 1) := by decide +kernel
theorem dX7_copy_15 : decode cX7_copy 15 = .ok (.ireturn, 1) := by decide +kernel
theorem dX7_copy_16 : decode cX7_copy 16 = .ok (.aload_n 0, 1) := by decide +kernel
theorem dX7_copy_17 : decode cX7_copy 17 = .ok (.getfield 23, 3) := by decide +kernel
theorem dX7_copy_20 : decode cX7_copy 20 = .ok (.iload_n 1, 1) := by decide +kernel
theorem dX7_copy_21 : decode cX7_copy 21 = .ok (.iaload, 1) := by decide +kernel
theorem dX7_copy_22 : decode cX7_copy 22 = .ok (.bipush (-4), 2) := by decide +kernel
theorem dX7_copy_24 : decode cX7_copy 24 = .ok (.if_icmp .eq 14, 3) := by decide +kernel
theorem dX7_copy_27 : decode cX7_copy 27 = .ok (.aload_n 0, 1) := by decide +kernel
theorem dX7_copy_28 : decode cX7_copy 28 = .ok (.getfield 23, 3) := by decide +kernel
theorem dX7_copy_31 : decode cX7_copy 31 = .ok (.iload_n 3, 1) := by decide +kernel
theorem dX7_copy_32 : decode cX7_copy 32 = .ok (.iaload, 1) := by decide +kernel
theorem dX7_copy_33 : decode cX7_copy 33 = .ok (.bipush (-4), 2) := by decide +kernel
theorem dX7_copy_35 : decode cX7_copy 35 = .ok (.if_icmp .ne 6, 3) := by decide +kernel
theorem dX7_copy_38 : decode cX7_copy 38 = .ok (.bipush (-11), 2) := by decide +kernel
theorem dX7_copy_40 : decode cX7_copy 40 = .ok (.ireturn, 1) := by decide +kernel
theorem dX7_copy_41 : decode cX7_copy 41 = .ok (.aload_n 0, 1) := by decide +kernel
theorem dX7_copy_42 : decode cX7_copy 42 = .ok (.getfield 20, 3) := by decide +kernel
theorem dX7_copy_45 : decode cX7_copy 45 = .ok (.iload_n 1, 1) := by decide +kernel
theorem dX7_copy_46 : decode cX7_copy 46 = .ok (.iaload, 1) := by decide +kernel
theorem dX7_copy_47 : decode cX7_copy 47 = .ok (.aload_n 0, 1) := by decide +kernel
theorem dX7_copy_48 : decode cX7_copy 48 = .ok (.getfield 20, 3) := by decide +kernel
theorem dX7_copy_51 : decode cX7_copy 51 = .ok (.iload_n 3, 1) := by decide +kernel
theorem dX7_copy_52 : decode cX7_copy 52 = .ok (.iaload, 1) := by decide +kernel
theorem dX7_copy_53 : decode cX7_copy 53 = .ok (.if_icmp .eq 6, 3) := by decide +kernel
theorem dX7_copy_56 : decode cX7_copy 56 = .ok (.bipush (-12), 2) := by decide +kernel
theorem dX7_copy_58 : decode cX7_copy 58 = .ok (.ireturn, 1) := by decide +kernel
theorem dX7_copy_59 : decode cX7_copy 59 = .ok (.aload_n 0, 1) := by decide +kernel
theorem dX7_copy_60 : decode cX7_copy 60 = .ok (.iload_n 1, 1) := by decide +kernel
theorem dX7_copy_61 : decode cX7_copy 61 = .ok (.aload_n 0, 1) := by decide +kernel
theorem dX7_copy_62 : decode cX7_copy 62 = .ok (.getfield 20, 3) := by decide +kernel
theorem dX7_copy_65 : decode cX7_copy 65 = .ok (.iload_n 1, 1) := by decide +kernel
theorem dX7_copy_66 : decode cX7_copy 66 = .ok (.iaload, 1) := by decide +kernel
theorem dX7_copy_67 : decode cX7_copy 67 = .ok (.iload_n 2, 1) := by decide +kernel
theorem dX7_copy_68 : decode cX7_copy 68 = .ok (.iload 5, 2) := by decide +kernel
theorem dX7_copy_70 : decode cX7_copy 70 = .ok (.invokevirtual 214, 3) := by decide +kernel
theorem dX7_copy_73 : decode cX7_copy 73 = .ok (.ifCond .lt 21, 3) := by decide +kernel
theorem dX7_copy_76 : decode cX7_copy 76 = .ok (.aload_n 0, 1) := by decide +kernel
theorem dX7_copy_77 : decode cX7_copy 77 = .ok (.iload_n 3, 1) := by decide +kernel
theorem dX7_copy_78 : decode cX7_copy 78 = .ok (.aload_n 0, 1) := by decide +kernel
theorem dX7_copy_79 : decode cX7_copy 79 = .ok (.getfield 20, 3) := by decide +kernel
theorem dX7_copy_82 : decode cX7_copy 82 = .ok (.iload_n 1, 1) := by decide +kernel
theorem dX7_copy_83 : decode cX7_copy 83 = .ok (.iaload, 1) := by decide +kernel
theorem dX7_copy_84 : decode cX7_copy 84 = .ok (.iload 4, 2) := by decide +kernel
theorem dX7_copy_86 : decode cX7_copy 86 = .ok (.iload 5, 2) := by decide +kernel
theorem dX7_copy_88 : decode cX7_copy 88 = .ok (.invokevirtual 214, 3) := by decide +kernel
theorem dX7_copy_91 : decode cX7_copy 91 = .ok (.ifCond .ge 6, 3) := by decide +kernel
theorem dX7_copy_94 : decode cX7_copy 94 = .ok (.bipush (-13), 2) := by decide +kernel
theorem dX7_copy_96 : decode cX7_copy 96 = .ok (.ireturn, 1) := by decide +kernel
theorem dX7_copy_97 : decode cX7_copy 97 = .ok (.iload_n 1, 1) := by decide +kernel
theorem dX7_copy_98 : decode cX7_copy 98 = .ok (.iload_n 3, 1) := by decide +kernel
theorem dX7_copy_99 : decode cX7_copy 99 = .ok (.if_icmp .ne 13, 3) := by decide +kernel
theorem dX7_copy_102 : decode cX7_copy 102 = .ok (.iload_n 2, 1) := by decide +kernel
theorem dX7_copy_103 : decode cX7_copy 103 = .ok (.iload 4, 2) := by decide +kernel
theorem dX7_copy_105 : decode cX7_copy 105 = .ok (.if_icmp .ge 7, 3) := by decide +kernel
theorem dX7_copy_108 : decode cX7_copy 108 = .ok (.iconst 1, 1) := by decide +kernel
theorem dX7_copy_109 : decode cX7_copy 109 = .ok (.goto 4, 3) := by decide +kernel
theorem dX7_copy_112 : decode cX7_copy 112 = .ok (.iconst 0, 1) := by decide +kernel
theorem dX7_copy_113 : decode cX7_copy 113 = .ok (.istore 6, 2) := by decide +kernel
theorem dX7_copy_115 : decode cX7_copy 115 = .ok (.iconst 0, 1) := by decide +kernel
theorem dX7_copy_116 : decode cX7_copy 116 = .ok (.istore 7, 2) := by decide +kernel
theorem dX7_copy_118 : decode cX7_copy 118 = .ok (.iload 7, 2) := by decide +kernel
theorem dX7_copy_120 : decode cX7_copy 120 = .ok (.iload 5, 2) := by decide +kernel
theorem dX7_copy_122 : decode cX7_copy 122 = .ok (.if_icmp .ge 57, 3) := by decide +kernel
theorem dX7_copy_125 : decode cX7_copy 125 = .ok (.iload 6, 2) := by decide +kernel
theorem dX7_copy_127 : decode cX7_copy 127 = .ok (.ifCond .eq 13, 3) := by decide +kernel
theorem dX7_copy_130 : decode cX7_copy 130 = .ok (.iload 5, 2) := by decide +kernel
theorem dX7_copy_132 : decode cX7_copy 132 = .ok (.iconst 1, 1) := by decide +kernel
theorem dX7_copy_133 : decode cX7_copy 133 = .ok (.isub, 1) := by decide +kernel
theorem dX7_copy_134 : decode cX7_copy 134 = .ok (.iload 7, 2) := by decide +kernel
theorem dX7_copy_136 : decode cX7_copy 136 = .ok (.isub, 1) := by decide +kernel
theorem dX7_copy_137 : decode cX7_copy 137 = .ok (.goto 5, 3) := by decide +kernel
theorem dX7_copy_140 : decode cX7_copy 140 = .ok (.iload 7, 2) := by decide +kernel
theorem dX7_copy_142 : decode cX7_copy 142 = .ok (.istore 8, 2) := by decide +kernel
theorem dX7_copy_144 : decode cX7_copy 144 = .ok (.aload_n 0, 1) := by decide +kernel
theorem dX7_copy_145 : decode cX7_copy 145 = .ok (.getfield 16, 3) := by decide +kernel
theorem dX7_copy_148 : decode cX7_copy 148 = .ok (.bipush 24, 2) := by decide +kernel
theorem dX7_copy_150 : decode cX7_copy 150 = .ok (.iload_n 3, 1) := by decide +kernel
theorem dX7_copy_151 : decode cX7_copy 151 = .ok (.imul, 1) := by decide +kernel
theorem dX7_copy_152 : decode cX7_copy 152 = .ok (.iload 4, 2) := by decide +kernel
theorem dX7_copy_154 : decode cX7_copy 154 = .ok (.iadd, 1) := by decide +kernel
theorem dX7_copy_155 : decode cX7_copy 155 = .ok (.iload 8, 2) := by decide +kernel
theorem dX7_copy_157 : decode cX7_copy 157 = .ok (.iadd, 1) := by decide +kernel
theorem dX7_copy_158 : decode cX7_copy 158 = .ok (.aload_n 0, 1) := by decide +kernel
theorem dX7_copy_159 : decode cX7_copy 159 = .ok (.getfield 16, 3) := by decide +kernel
theorem dX7_copy_162 : decode cX7_copy 162 = .ok (.bipush 24, 2) := by decide +kernel
theorem dX7_copy_164 : decode cX7_copy 164 = .ok (.iload_n 1, 1) := by decide +kernel
theorem dX7_copy_165 : decode cX7_copy 165 = .ok (.imul, 1) := by decide +kernel
theorem dX7_copy_166 : decode cX7_copy 166 = .ok (.iload_n 2, 1) := by decide +kernel
theorem dX7_copy_167 : decode cX7_copy 167 = .ok (.iadd, 1) := by decide +kernel
theorem dX7_copy_168 : decode cX7_copy 168 = .ok (.iload 8, 2) := by decide +kernel
theorem dX7_copy_170 : decode cX7_copy 170 = .ok (.iadd, 1) := by decide +kernel
theorem dX7_copy_171 : decode cX7_copy 171 = .ok (.laload, 1) := by decide +kernel
theorem dX7_copy_172 : decode cX7_copy 172 = .ok (.lastore, 1) := by decide +kernel
theorem dX7_copy_173 : decode cX7_copy 173 = .ok (.iinc 7 1, 3) := by decide +kernel
theorem dX7_copy_176 : decode cX7_copy 176 = .ok (.goto (-58), 3) := by decide +kernel
theorem dX7_copy_179 : decode cX7_copy 179 = .ok (.iload 5, 2) := by decide +kernel
theorem dX7_copy_181 : decode cX7_copy 181 = .ok (.ireturn, 1) := by decide +kernel
def sm_X7_copy_142 (K118 : Nat → Int32 → Int32 → Int32 → Int32 → Int32 → Int32 → Int32 → aw_H → Prop) (Q : aw_R) (p0 : Nat) (x1 : Int32) (x2 : Int32) (x3 : Int32) (x4 : Int32) (x5 : Int32) (x6 : Int32) (x7 : Int32) (xs0 : Int32) (h : aw_H) : Prop :=
  sg_R h p0 6 4 fun q1 => sg_R h p0 6 4 fun q2 => sa_L h q2 (((24 * x1) + x2) + xs0) fun u3 => ss_L h q1 (((24 * x3) + x4) + xs0) u3 fun h4 => K118 p0 x1 x2 x3 x4 x5 x6 (x7 + 1) h4
set_option maxRecDepth 100000 in
set_option maxHeartbeats 4000000 in
theorem bl_X7_copy_142 {X : aw_X} {Q : aw_R} (C : aw_C X cX7_copy RX7 9 2) (Z : aw_Z X cX7_copy (some .int) Q) (p0 : Nat) (x1 : Int32) (x2 : Int32) (x3 : Int32) (x4 : Int32) (x5 : Int32) (x6 : Int32) (x7 : Int32) (xs0 : Int32) (h : aw_H) (hh : sm_X7_copy_142 (fun (p0 : Nat) (x1 : Int32) (x2 : Int32) (x3 : Int32) (x4 : Int32) (x5 : Int32) (x6 : Int32) (x7 : Int32) (h : aw_H) => Sat X 118 [.ref p0, .int x1, .int x2, .int x3, .int x4, .int x5, .int x6, .int x7, Value.null] [] h) Q p0 x1 x2 x3 x4 x5 x6 x7 xs0 h) : Sat X 142 [.ref p0, .int x1, .int x2, .int x3, .int x4, .int x5, .int x6, .int x7, Value.null] [.int xs0] h := by
  unfold sm_X7_copy_142 at hh
  refine ow_istore (L' := [.ref p0, .int x1, .int x2, .int x3, .int x4, .int x5, .int x6, .int x7, .int xs0]) C dX7_copy_142 (by decide) rfl ?_
  refine ow_aload_n C dX7_copy_144 rfl rfl ?_
  refine ow_getR (ci := 6) (k := 4) (T := TX7) C rfl igX7 (by decide) kw_811 dX7_copy_145 hh (fun q1 hh => ?_)
  refine ow_bipush (v := 24) C dX7_copy_148 rfl ?_
  refine ow_iload_n C dX7_copy_150 rfl rfl ?_
  refine ow_imul C dX7_copy_151 ?_
  refine ow_iload C dX7_copy_152 rfl ?_
  refine ow_iadd C dX7_copy_154 ?_
  refine ow_iload C dX7_copy_155 rfl ?_
  refine ow_iadd C dX7_copy_157 ?_
  refine ow_aload_n C dX7_copy_158 rfl rfl ?_
  refine ow_getR (ci := 6) (k := 4) (T := TX7) C rfl igX7 (by decide) kw_811 dX7_copy_159 hh (fun q2 hh => ?_)
  refine ow_bipush (v := 24) C dX7_copy_162 rfl ?_
  refine ow_iload_n C dX7_copy_164 rfl rfl ?_
  refine ow_imul C dX7_copy_165 ?_
  refine ow_iload_n C dX7_copy_166 rfl rfl ?_
  refine ow_iadd C dX7_copy_167 ?_
  refine ow_iload C dX7_copy_168 rfl ?_
  refine ow_iadd C dX7_copy_170 ?_
  refine ow_laload C dX7_copy_171 hh (fun u3 hh => ?_)
  refine ow_lastore C dX7_copy_172 hh (fun h4 hh => ?_)
  refine ow_iinc (v := x7 + 1) (L' := [.ref p0, .int x1, .int x2, .int x3, .int x4, .int x5, .int x6, .int (x7 + 1), .int xs0]) C dX7_copy_173 rfl rfl (by decide) rfl ?_
  refine ow_goto (tgt := 118) C dX7_copy_176 (by decide) ?_
  exact Sat.mask hh (mk_y (mk_y (mk_y (mk_y (mk_y (mk_y (mk_y (mk_y (mk_n mk_0)))))))))
def sm_X7_copy_118 (K118 : Nat → Int32 → Int32 → Int32 → Int32 → Int32 → Int32 → Int32 → aw_H → Prop) (Q : aw_R) (p0 : Nat) (x1 : Int32) (x2 : Int32) (x3 : Int32) (x4 : Int32) (x5 : Int32) (x6 : Int32) (x7 : Int32) (h : aw_H) : Prop :=
  if x5 ≤ x7 then (Q (some (.int x5)) h) else (if x6 = 0 then (sm_X7_copy_142 K118 Q p0 x1 x2 x3 x4 x5 x6 x7 x7 h) else (sm_X7_copy_142 K118 Q p0 x1 x2 x3 x4 x5 x6 x7 ((x5 - 1) - x7) h))
set_option maxRecDepth 100000 in
set_option maxHeartbeats 4000000 in
theorem bl_X7_copy_118 {X : aw_X} {Q : aw_R} (C : aw_C X cX7_copy RX7 9 2) (Z : aw_Z X cX7_copy (some .int) Q) (p0 : Nat) (x1 : Int32) (x2 : Int32) (x3 : Int32) (x4 : Int32) (x5 : Int32) (x6 : Int32) (x7 : Int32) (h : aw_H) (hh : sm_X7_copy_118 (fun (p0 : Nat) (x1 : Int32) (x2 : Int32) (x3 : Int32) (x4 : Int32) (x5 : Int32) (x6 : Int32) (x7 : Int32) (h : aw_H) => Sat X 118 [.ref p0, .int x1, .int x2, .int x3, .int x4, .int x5, .int x6, .int x7, Value.null] [] h) Q p0 x1 x2 x3 x4 x5 x6 x7 h) : Sat X 118 [.ref p0, .int x1, .int x2, .int x3, .int x4, .int x5, .int x6, .int x7, Value.null] [] h := by
  unfold sm_X7_copy_118 at hh
  refine ow_iload C dX7_copy_118 rfl ?_
  refine ow_iload C dX7_copy_120 rfl ?_
  refine ow_icmp_ge (tgt := 179) C dX7_copy_122 (by decide) hh (fun hh => ?_) (fun hh => ?_)
  · skip
    refine ow_iload C dX7_copy_179 rfl ?_
    exact ow_iret Z dX7_copy_181 trivial hh
  · skip
    refine ow_iload C dX7_copy_125 rfl ?_
    refine ow_if_eq (tgt := 140) C dX7_copy_127 (by decide) hh (fun hh => ?_) (fun hh => ?_)
    · skip
      refine ow_iload C dX7_copy_140 rfl ?_
      exact Sat.mask (bl_X7_copy_142 C Z p0 x1 x2 x3 x4 x5 x6 x7 x7 h hh) (mk_y (mk_y (mk_y (mk_y (mk_y (mk_y (mk_y (mk_y (mk_n mk_0)))))))))
    · skip
      refine ow_iload C dX7_copy_130 rfl ?_
      refine ow_iconst (v := 1) C dX7_copy_132 rfl ?_
      refine ow_isub C dX7_copy_133 ?_
      refine ow_iload C dX7_copy_134 rfl ?_
      refine ow_isub C dX7_copy_136 ?_
      refine ow_goto (tgt := 142) C dX7_copy_137 (by decide) ?_
      exact Sat.mask (bl_X7_copy_142 C Z p0 x1 x2 x3 x4 x5 x6 x7 ((x5 - 1) - x7) h hh) (mk_y (mk_y (mk_y (mk_y (mk_y (mk_y (mk_y (mk_y (mk_n mk_0)))))))))
def sm_X7_copy_0 (K118 : Nat → Int32 → Int32 → Int32 → Int32 → Int32 → Int32 → Int32 → aw_H → Prop) (Q : aw_R) (p0 : Nat) (x1 : Int32) (x2 : Int32) (x3 : Int32) (x4 : Int32) (x5 : Int32) (h : aw_H) : Prop :=
  tr_X7_isSheet [.int x1] h fun r2 h1 => sr_I r2 fun v3 => if v3 = 0 then (Q (some (.int ((-1)))) h1) else (tr_X7_isSheet [.int x3] h1 fun r5 h4 => sr_I r5 fun v6 => if ¬ v6 = 0 then (sg_R h4 p0 6 6 fun q7 => sa_I h4 q7 x1 fun v8 => if v8 = ((-4)) then (Q (some (.int ((-11)))) h4) else (sg_R h4 p0 6 6 fun q9 => sa_I h4 q9 x3 fun v10 => if ¬ v10 = ((-4)) then (sg_R h4 p0 6 5 fun q11 => sa_I h4 q11 x1 fun v12 => sg_R h4 p0 6 5 fun q13 => sa_I h4 q13 x3 fun v14 => if v12 = v14 then (sg_R h4 p0 6 5 fun q15 => sa_I h4 q15 x1 fun v16 => sv_O h4 p0 6 (tr_X7_found [.ref p0, .int x1, .int v16, .int x2, .int x5] h4 fun r18 h17 => sr_I r18 fun v19 => if v19 < 0 then (Q (some (.int ((-13)))) h17) else (sg_R h17 p0 6 5 fun q20 => sa_I h17 q20 x1 fun v21 => sv_O h17 p0 6 (tr_X7_found [.ref p0, .int x3, .int v21, .int x4, .int x5] h17 fun r23 h22 => sr_I r23 fun v24 => if 0 ≤ v24 then (if ¬ x1 = x3 then (K118 p0 x1 x2 x3 x4 x5 0 0 h22) else (if x4 ≤ x2 then (K118 p0 x1 x2 x3 x4 x5 0 0 h22) else (K118 p0 x1 x2 x3 x4 x5 1 0 h22))) else (Q (some (.int ((-13)))) h22))))) else (Q (some (.int ((-12)))) h4)) else (Q (some (.int ((-11)))) h4))) else (Q (some (.int ((-1)))) h4))
set_option maxRecDepth 100000 in
set_option maxHeartbeats 4000000 in
theorem bl_X7_copy_0 {X : aw_X} {Q : aw_R} (C : aw_C X cX7_copy RX7 9 2) (Z : aw_Z X cX7_copy (some .int) Q) (p0 : Nat) (x1 : Int32) (x2 : Int32) (x3 : Int32) (x4 : Int32) (x5 : Int32) (h : aw_H) (hh : sm_X7_copy_0 (fun (p0 : Nat) (x1 : Int32) (x2 : Int32) (x3 : Int32) (x4 : Int32) (x5 : Int32) (x6 : Int32) (x7 : Int32) (h : aw_H) => Sat X 118 [.ref p0, .int x1, .int x2, .int x3, .int x4, .int x5, .int x6, .int x7, Value.null] [] h) Q p0 x1 x2 x3 x4 x5 h) : Sat X 0 [.ref p0, .int x1, .int x2, .int x3, .int x4, .int x5, Value.null, Value.null, Value.null] [] h := by
  unfold sm_X7_copy_0 at hh
  refine ow_iload_n C dX7_copy_0 rfl rfl ?_
  refine ow_callS C (cs_X7_isSheet _) (Nat.le_of_ble_eq_true rfl) kw_825 dX7_copy_1 (as := [.int x1]) (st := []) rfl rfl (Nat.le_of_ble_eq_true rfl) hh (fun r2 h1 hq => ?_)
  obtain ⟨v3, rfl, hh⟩ := sr_I_e hq
  show Sat X 4 [.ref p0, .int x1, .int x2, .int x3, .int x4, .int x5, Value.null, Value.null, Value.null] [.int v3] h1
  refine ow_if_eq (tgt := 14) C dX7_copy_4 (by decide) hh (fun hh => ?_) (fun hh => ?_)
  · skip
    refine ow_iconst (v := (-1)) C dX7_copy_14 rfl ?_
    exact ow_iret Z dX7_copy_15 trivial hh
  · skip
    refine ow_iload_n C dX7_copy_7 rfl rfl ?_
    refine ow_callS C (cs_X7_isSheet _) (Nat.le_of_ble_eq_true rfl) kw_825 dX7_copy_8 (as := [.int x3]) (st := []) rfl rfl (Nat.le_of_ble_eq_true rfl) hh (fun r5 h4 hq => ?_)
    obtain ⟨v6, rfl, hh⟩ := sr_I_e hq
    show Sat X 11 [.ref p0, .int x1, .int x2, .int x3, .int x4, .int x5, Value.null, Value.null, Value.null] [.int v6] h4
    refine ow_if_ne (tgt := 16) C dX7_copy_11 (by decide) hh (fun hh => ?_) (fun hh => ?_)
    · skip
      refine ow_aload_n C dX7_copy_16 rfl rfl ?_
      refine ow_getR (ci := 6) (k := 6) (T := TX7) C rfl igX7 (by decide) kw_806 dX7_copy_17 hh (fun q7 hh => ?_)
      refine ow_iload_n C dX7_copy_20 rfl rfl ?_
      refine ow_iaload C dX7_copy_21 hh (fun v8 hh => ?_)
      refine ow_bipush (v := (-4)) C dX7_copy_22 rfl ?_
      refine ow_icmp_eq (tgt := 38) C dX7_copy_24 (by decide) hh (fun hh => ?_) (fun hh => ?_)
      · skip
        refine ow_bipush (v := (-11)) C dX7_copy_38 rfl ?_
        exact ow_iret Z dX7_copy_40 trivial hh
      · skip
        refine ow_aload_n C dX7_copy_27 rfl rfl ?_
        refine ow_getR (ci := 6) (k := 6) (T := TX7) C rfl igX7 (by decide) kw_806 dX7_copy_28 hh (fun q9 hh => ?_)
        refine ow_iload_n C dX7_copy_31 rfl rfl ?_
        refine ow_iaload C dX7_copy_32 hh (fun v10 hh => ?_)
        refine ow_bipush (v := (-4)) C dX7_copy_33 rfl ?_
        refine ow_icmp_ne (tgt := 41) C dX7_copy_35 (by decide) hh (fun hh => ?_) (fun hh => ?_)
        · skip
          refine ow_aload_n C dX7_copy_41 rfl rfl ?_
          refine ow_getR (ci := 6) (k := 5) (T := TX7) C rfl igX7 (by decide) kw_807 dX7_copy_42 hh (fun q11 hh => ?_)
          refine ow_iload_n C dX7_copy_45 rfl rfl ?_
          refine ow_iaload C dX7_copy_46 hh (fun v12 hh => ?_)
          refine ow_aload_n C dX7_copy_47 rfl rfl ?_
          refine ow_getR (ci := 6) (k := 5) (T := TX7) C rfl igX7 (by decide) kw_807 dX7_copy_48 hh (fun q13 hh => ?_)
          refine ow_iload_n C dX7_copy_51 rfl rfl ?_
          refine ow_iaload C dX7_copy_52 hh (fun v14 hh => ?_)
          refine ow_icmp_eq (tgt := 59) C dX7_copy_53 (by decide) hh (fun hh => ?_) (fun hh => ?_)
          · skip
            refine ow_aload_n C dX7_copy_59 rfl rfl ?_
            refine ow_iload_n C dX7_copy_60 rfl rfl ?_
            refine ow_aload_n C dX7_copy_61 rfl rfl ?_
            refine ow_getR (ci := 6) (k := 5) (T := TX7) C rfl igX7 (by decide) kw_807 dX7_copy_62 hh (fun q15 hh => ?_)
            refine ow_iload_n C dX7_copy_65 rfl rfl ?_
            refine ow_iaload C dX7_copy_66 hh (fun v16 hh => ?_)
            refine ow_iload_n C dX7_copy_67 rfl rfl ?_
            refine ow_iload C dX7_copy_68 rfl ?_
            refine ow_callV C (cv_X7_found _) (Nat.le_of_ble_eq_true rfl) kw_827 dX7_copy_70 (as := [.int x1, .int v16, .int x2, .int x5]) (st := []) rfl rfl (Nat.le_of_ble_eq_true rfl) hh (fun r18 h17 hq => ?_)
            obtain ⟨v19, rfl, hh⟩ := sr_I_e hq
            show Sat X 73 [.ref p0, .int x1, .int x2, .int x3, .int x4, .int x5, Value.null, Value.null, Value.null] [.int v19] h17
            refine ow_if_lt (tgt := 94) C dX7_copy_73 (by decide) hh (fun hh => ?_) (fun hh => ?_)
            · skip
              refine ow_bipush (v := (-13)) C dX7_copy_94 rfl ?_
              exact ow_iret Z dX7_copy_96 trivial hh
            · skip
              refine ow_aload_n C dX7_copy_76 rfl rfl ?_
              refine ow_iload_n C dX7_copy_77 rfl rfl ?_
              refine ow_aload_n C dX7_copy_78 rfl rfl ?_
              refine ow_getR (ci := 6) (k := 5) (T := TX7) C rfl igX7 (by decide) kw_807 dX7_copy_79 hh (fun q20 hh => ?_)
              refine ow_iload_n C dX7_copy_82 rfl rfl ?_
              refine ow_iaload C dX7_copy_83 hh (fun v21 hh => ?_)
              refine ow_iload C dX7_copy_84 rfl ?_
              refine ow_iload C dX7_copy_86 rfl ?_
              refine ow_callV C (cv_X7_found _) (Nat.le_of_ble_eq_true rfl) kw_827 dX7_copy_88 (as := [.int x3, .int v21, .int x4, .int x5]) (st := []) rfl rfl (Nat.le_of_ble_eq_true rfl) hh (fun r23 h22 hq => ?_)
              obtain ⟨v24, rfl, hh⟩ := sr_I_e hq
              show Sat X 91 [.ref p0, .int x1, .int x2, .int x3, .int x4, .int x5, Value.null, Value.null, Value.null] [.int v24] h22
              refine ow_if_ge (tgt := 97) C dX7_copy_91 (by decide) hh (fun hh => ?_) (fun hh => ?_)
              · skip
                refine ow_iload_n C dX7_copy_97 rfl rfl ?_
                refine ow_iload_n C dX7_copy_98 rfl rfl ?_
                refine ow_icmp_ne (tgt := 112) C dX7_copy_99 (by decide) hh (fun hh => ?_) (fun hh => ?_)
                · skip
                  refine ow_iconst (v := 0) C dX7_copy_112 rfl ?_
                  refine ow_istore (L' := [.ref p0, .int x1, .int x2, .int x3, .int x4, .int x5, .int 0, Value.null, Value.null]) C dX7_copy_113 (by decide) rfl ?_
                  refine ow_iconst (v := 0) C dX7_copy_115 rfl ?_
                  refine ow_istore (L' := [.ref p0, .int x1, .int x2, .int x3, .int x4, .int x5, .int 0, .int 0, Value.null]) C dX7_copy_116 (by decide) rfl ?_
                  exact Sat.mask hh (mk_y (mk_y (mk_y (mk_y (mk_y (mk_y (mk_y (mk_y (mk_n mk_0)))))))))
                · skip
                  refine ow_iload_n C dX7_copy_102 rfl rfl ?_
                  refine ow_iload C dX7_copy_103 rfl ?_
                  refine ow_icmp_ge (tgt := 112) C dX7_copy_105 (by decide) hh (fun hh => ?_) (fun hh => ?_)
                  · skip
                    refine ow_iconst (v := 0) C dX7_copy_112 rfl ?_
                    refine ow_istore (L' := [.ref p0, .int x1, .int x2, .int x3, .int x4, .int x5, .int 0, Value.null, Value.null]) C dX7_copy_113 (by decide) rfl ?_
                    refine ow_iconst (v := 0) C dX7_copy_115 rfl ?_
                    refine ow_istore (L' := [.ref p0, .int x1, .int x2, .int x3, .int x4, .int x5, .int 0, .int 0, Value.null]) C dX7_copy_116 (by decide) rfl ?_
                    exact Sat.mask hh (mk_y (mk_y (mk_y (mk_y (mk_y (mk_y (mk_y (mk_y (mk_n mk_0)))))))))
                  · skip
                    refine ow_iconst (v := 1) C dX7_copy_108 rfl ?_
                    refine ow_goto (tgt := 113) C dX7_copy_109 (by decide) ?_
                    refine ow_istore (L' := [.ref p0, .int x1, .int x2, .int x3, .int x4, .int x5, .int 1, Value.null, Value.null]) C dX7_copy_113 (by decide) rfl ?_
                    refine ow_iconst (v := 0) C dX7_copy_115 rfl ?_
                    refine ow_istore (L' := [.ref p0, .int x1, .int x2, .int x3, .int x4, .int x5, .int 1, .int 0, Value.null]) C dX7_copy_116 (by decide) rfl ?_
                    exact Sat.mask hh (mk_y (mk_y (mk_y (mk_y (mk_y (mk_y (mk_y (mk_y (mk_n mk_0)))))))))
              · skip
                refine ow_bipush (v := (-13)) C dX7_copy_94 rfl ?_
                exact ow_iret Z dX7_copy_96 trivial hh
          · skip
            refine ow_bipush (v := (-12)) C dX7_copy_56 rfl ?_
            exact ow_iret Z dX7_copy_58 trivial hh
        · skip
          refine ow_bipush (v := (-11)) C dX7_copy_38 rfl ?_
          exact ow_iret Z dX7_copy_40 trivial hh
    · skip
      refine ow_iconst (v := (-1)) C dX7_copy_14 rfl ?_
      exact ow_iret Z dX7_copy_15 trivial hh
def tr_X7_copy : aw_T := fun as h Q => ∃ (p0 : Nat) (x1 : Int32) (x2 : Int32) (x3 : Int32) (x4 : Int32) (x5 : Int32), as = [.ref p0, .int x1, .int x2, .int x3, .int x4, .int x5] ∧ (∀ (K118 : Nat → Int32 → Int32 → Int32 → Int32 → Int32 → Int32 → Int32 → aw_H → Prop), (∀ (p0 : Nat) (x1 : Int32) (x2 : Int32) (x3 : Int32) (x4 : Int32) (x5 : Int32) (x6 : Int32) (x7 : Int32) (h : aw_H), sm_X7_copy_118 K118 Q p0 x1 x2 x3 x4 x5 x6 x7 h → K118 p0 x1 x2 x3 x4 x5 x6 x7 h) → sm_X7_copy_0 K118 Q p0 x1 x2 x3 x4 x5 h)
theorem tq_X7_copy {p0 : Nat} {x1 : Int32} {x2 : Int32} {x3 : Int32} {x4 : Int32} {x5 : Int32} {h : aw_H} {Q : aw_R} : tr_X7_copy [.ref p0, .int x1, .int x2, .int x3, .int x4, .int x5] h Q ↔ (∀ (K118 : Nat → Int32 → Int32 → Int32 → Int32 → Int32 → Int32 → Int32 → aw_H → Prop), (∀ (p0 : Nat) (x1 : Int32) (x2 : Int32) (x3 : Int32) (x4 : Int32) (x5 : Int32) (x6 : Int32) (x7 : Int32) (h : aw_H), sm_X7_copy_118 K118 Q p0 x1 x2 x3 x4 x5 x6 x7 h → K118 p0 x1 x2 x3 x4 x5 x6 x7 h) → sm_X7_copy_0 K118 Q p0 x1 x2 x3 x4 x5 h) := by
  constructor
  · rintro ⟨_, _, _, _, _, _, as0, hh⟩
    cases as0
    exact hh
  · intro hh
    exact ⟨_, _, _, _, _, _, rfl, hh⟩
theorem ct_X7_copy (E : aw_F) : CT E yX7_copy cX7_copy 9 (some .int) 2 tr_X7_copy := by
  refine ct_of (by decide) ?_
  intro X Q as h hE C Z hG
  subst hE
  obtain ⟨p0, x1, x2, x3, x4, x5, rfl, hh⟩ := hG
  refine ⟨[.ref p0, .int x1, .int x2, .int x3, .int x4, .int x5, Value.null, Value.null, Value.null], rfl, Nat.le_of_ble_eq_true rfl, ?_⟩
  exact bl_X7_copy_0 C Z p0 x1 x2 x3 x4 x5 h (hh (fun (p0 : Nat) (x1 : Int32) (x2 : Int32) (x3 : Int32) (x4 : Int32) (x5 : Int32) (x6 : Int32) (x7 : Int32) (h : aw_H) => Sat X 118 [.ref p0, .int x1, .int x2, .int x3, .int x4, .int x5, .int x6, .int x7, Value.null] [] h) (fun p0 x1 x2 x3 x4 x5 x6 x7 h hh => bl_X7_copy_118 C Z p0 x1 x2 x3 x4 x5 x6 x7 h hh))
theorem cv_X7_copy (E : aw_F) : CV E yX7_copy cX7_copy 9 (some .int) 2 5 6 tr_X7_copy := ⟨ct_X7_copy E, by decide, kw_847, kw_848, kw_527, kw_846, by decide +kernel, _, _, rfl⟩
