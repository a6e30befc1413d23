theorem dX1_learnRuns_0 : decode cX1_learnRuns 0 = .ok (.aload_n 0, 1) := by decide +kernel
theorem dX1_learnRuns_1 : decode cX1_learnRuns 1 = .ok (.getfield 12, 3) := by decide +kernel
theorem dX1_learnRuns_4 : decode cX1_learnRuns 4 = .ok (.invokevirtual 28, 3) := by decide +kernel
theorem dX1_learnRuns_7 : decode cX1_learnRuns 7 = .ok (.istore_n 1, 1) := by decide +kernel
theorem dX1_learnRuns_8 : decode cX1_learnRuns 8 = .ok (.iconst 0, 1) := by decide +kernel
theorem dX1_learnRuns_9 : decode cX1_learnRuns 9 = .ok (.istore_n 2, 1) := by decide +kernel
theorem dX1_learnRuns_10 : decode cX1_learnRuns 10 = .ok (.iload_n 2, 1) := by decide +kernel
theorem dX1_learnRuns_11 : decode cX1_learnRuns 11 = .ok (.iload_n 1, 1) := by decide +kernel
theorem dX1_learnRuns_12 : decode cX1_learnRuns 12 = .ok (.if_icmp .ge 23, 3) := by decide +kernel
theorem dX1_learnRuns_15 : decode cX1_learnRuns 15 = .ok (.aload_n 0, 1) := by decide +kernel
theorem dX1_learnRuns_16 : decode cX1_learnRuns 16 = .ok (.getfield 18, 3) := by decide +kernel
theorem dX1_learnRuns_19 : decode cX1_learnRuns 19 = .ok (.iload_n 2, 1) := by decide +kernel
theorem dX1_learnRuns_20 : decode cX1_learnRuns 20 = .ok (.aload_n 0, 1) := by decide +kernel
theorem dX1_learnRuns_21 : decode cX1_learnRuns 21 = .ok (.getfield 12, 3) := by decide +kernel
theorem dX1_learnRuns_24 : decode cX1_learnRuns 24 = .ok (.iload_n 2, 1) := by decide +kernel
theorem dX1_learnRuns_25 : decode cX1_learnRuns 25 = .ok (.invokevirtual 32, 3) := by decide +kernel
theorem dX1_learnRuns_28 : decode cX1_learnRuns 28 = .ok (.iastore, 1) := by decide +kernel
theorem dX1_learnRuns_29 : decode cX1_learnRuns 29 = .ok (.iinc 2 1, 3) := by decide +kernel
theorem dX1_learnRuns_32 : decode cX1_learnRuns 32 = .ok (.goto (-22), 3) := by decide +kernel
theorem dX1_learnRuns_35 : decode cX1_learnRuns 35 = .ok (.return_, 1) := by decide +kernel
def sm_X1_learnRuns_10 (K10 : Nat → Int32 → Int32 → aw_H → Prop) (Q : aw_R) (p0 : Nat) (x1 : Int32) (x2 : Int32) (h : aw_H) : Prop :=
  if x1 ≤ x2 then (Q none h) else (sg_R h p0 1 1 fun q1 => sg_R h p0 1 0 fun q2 => sv_O h q2 0 (tr_X0_run [.ref q2, .int x2] h fun r4 h3 => sr_I r4 fun v5 => ss_I h3 q1 x2 v5 fun h6 => K10 p0 x1 (x2 + 1) h6))
set_option maxRecDepth 100000 in
set_option maxHeartbeats 4000000 in
theorem bl_X1_learnRuns_10 {X : aw_X} {Q : aw_R} (C : aw_C X cX1_learnRuns RX1 3 4) (Z : aw_Z X cX1_learnRuns none Q) (p0 : Nat) (x1 : Int32) (x2 : Int32) (h : aw_H) (hh : sm_X1_learnRuns_10 (fun (p0 : Nat) (x1 : Int32) (x2 : Int32) (h : aw_H) => Sat X 10 [.ref p0, .int x1, .int x2] [] h) Q p0 x1 x2 h) : Sat X 10 [.ref p0, .int x1, .int x2] [] h := by
  unfold sm_X1_learnRuns_10 at hh
  refine ow_iload_n C dX1_learnRuns_10 rfl rfl ?_
  refine ow_iload_n C dX1_learnRuns_11 rfl rfl ?_
  refine ow_icmp_ge (tgt := 35) C dX1_learnRuns_12 (by decide) hh (fun hh => ?_) (fun hh => ?_)
  · skip
    exact ow_vret Z dX1_learnRuns_35 trivial hh
  · skip
    refine ow_aload_n C dX1_learnRuns_15 rfl rfl ?_
    refine ow_getR (ci := 1) (k := 1) (T := TX1) C rfl igX1 (by decide) kw_198 dX1_learnRuns_16 hh (fun q1 hh => ?_)
    refine ow_iload_n C dX1_learnRuns_19 rfl rfl ?_
    refine ow_aload_n C dX1_learnRuns_20 rfl rfl ?_
    refine ow_getR (ci := 1) (k := 0) (T := TX1) C rfl igX1 (by decide) kw_199 dX1_learnRuns_21 hh (fun q2 hh => ?_)
    refine ow_iload_n C dX1_learnRuns_24 rfl rfl ?_
    refine ow_callV C (cv_X0_run _) (Nat.le_of_ble_eq_true rfl) kw_200 dX1_learnRuns_25 (as := [.int x2]) (st := [.int x2, .ref q1]) rfl rfl (Nat.le_of_ble_eq_true rfl) hh (fun r4 h3 hq => ?_)
    obtain ⟨v5, rfl, hh⟩ := sr_I_e hq
    show Sat X 28 [.ref p0, .int x1, .int x2] [.int v5, .int x2, .ref q1] h3
    refine ow_iastore C dX1_learnRuns_28 hh (fun h6 hh => ?_)
    refine ow_iinc (v := x2 + 1) (L' := [.ref p0, .int x1, .int (x2 + 1)]) C dX1_learnRuns_29 rfl rfl (by decide) rfl ?_
    refine ow_goto (tgt := 10) C dX1_learnRuns_32 (by decide) ?_
    exact Sat.mask hh (mk_y (mk_y (mk_y mk_0)))
def sm_X1_learnRuns_0 (K10 : Nat → Int32 → Int32 → aw_H → Prop) (Q : aw_R) (p0 : Nat) (h : aw_H) : Prop :=
  sg_R h p0 1 0 fun q1 => sv_O h q1 0 (tr_X0_states [.ref q1] h fun r3 h2 => sr_I r3 fun v4 => K10 p0 v4 0 h2)
set_option maxRecDepth 100000 in
set_option maxHeartbeats 4000000 in
theorem bl_X1_learnRuns_0 {X : aw_X} {Q : aw_R} (C : aw_C X cX1_learnRuns RX1 3 4) (Z : aw_Z X cX1_learnRuns none Q) (p0 : Nat) (h : aw_H) (hh : sm_X1_learnRuns_0 (fun (p0 : Nat) (x1 : Int32) (x2 : Int32) (h : aw_H) => Sat X 10 [.ref p0, .int x1, .int x2] [] h) Q p0 h) : Sat X 0 [.ref p0, Value.null, Value.null] [] h := by
  unfold sm_X1_learnRuns_0 at hh
  refine ow_aload_n C dX1_learnRuns_0 rfl rfl ?_
  refine ow_getR (ci := 1) (k := 0) (T := TX1) C rfl igX1 (by decide) kw_199 dX1_learnRuns_1 hh (fun q1 hh => ?_)
  refine ow_callV C (cv_X0_states _) (Nat.le_of_ble_eq_true rfl) kw_201 dX1_learnRuns_4 (as := []) (st := []) rfl rfl (Nat.le_of_ble_eq_true rfl) hh (fun r3 h2 hq => ?_)
  obtain ⟨v4, rfl, hh⟩ := sr_I_e hq
  show Sat X 7 [.ref p0, Value.null, Value.null] [.int v4] h2
  refine ow_istore_n (L' := [.ref p0, .int v4, Value.null]) C dX1_learnRuns_7 rfl (by decide) rfl ?_
  refine ow_iconst (v := 0) C dX1_learnRuns_8 rfl ?_
  refine ow_istore_n (L' := [.ref p0, .int v4, .int 0]) C dX1_learnRuns_9 rfl (by decide) rfl ?_
  exact Sat.mask hh (mk_y (mk_y (mk_y mk_0)))
def tr_X1_learnRuns : aw_T := fun as h Q => ∃ (p0 : Nat), as = [.ref p0] ∧ (∀ (K10 : Nat → Int32 → Int32 → aw_H → Prop), (∀ (p0 : Nat) (x1 : Int32) (x2 : Int32) (h : aw_H), sm_X1_learnRuns_10 K10 Q p0 x1 x2 h → K10 p0 x1 x2 h) → sm_X1_learnRuns_0 K10 Q p0 h)
theorem tq_X1_learnRuns {p0 : Nat} {h : aw_H} {Q : aw_R} : tr_X1_learnRuns [.ref p0] h Q ↔ (∀ (K10 : Nat → Int32 → Int32 → aw_H → Prop), (∀ (p0 : Nat) (x1 : Int32) (x2 : Int32) (h : aw_H), sm_X1_learnRuns_10 K10 Q p0 x1 x2 h → K10 p0 x1 x2 h) → sm_X1_learnRuns_0 K10 Q p0 h) := by
  constructor
  · rintro ⟨_, as0, hh⟩
    cases as0
    exact hh
  · intro hh
    exact ⟨_, rfl, hh⟩
theorem ct_X1_learnRuns (E : aw_F) : CT E yX1_learnRuns cX1_learnRuns 3 none 4 tr_X1_learnRuns := by
  refine ct_of (by decide) ?_
  intro X Q as h hE C Z hG
  subst hE
  obtain ⟨p0, rfl, hh⟩ := hG
  refine ⟨[.ref p0, Value.null, Value.null], rfl, Nat.le_of_ble_eq_true rfl, ?_⟩
  exact bl_X1_learnRuns_0 C Z p0 h (hh (fun (p0 : Nat) (x1 : Int32) (x2 : Int32) (h : aw_H) => Sat X 10 [.ref p0, .int x1, .int x2] [] h) (fun p0 x1 x2 h hh => bl_X1_learnRuns_10 C Z p0 x1 x2 h hh))
theorem cv_X1_learnRuns (E : aw_F) : CV E yX1_learnRuns cX1_learnRuns 3 none 4 0 1 tr_X1_learnRuns := ⟨ct_X1_learnRuns E, by decide, kw_204, kw_205, kw_203, kw_202, by decide +kernel, _, _, rfl⟩
theorem dX1_ringLength_0 : decode cX1_ringLength 0 = .ok (.aload_n 0, 1) := by decide +kernel
theorem dX1_ringLength_1 : decode cX1_ringLength 1 = .ok (.getfield 12, 3) := by decide +kernel
theorem dX1_ringLength_4 : decode cX1_ringLength 4 = .ok (.iload_n 1, 1) := by decide +kernel
theorem dX1_ringLength_5 : decode cX1_ringLength 5 = .ok (.invokevirtual 32, 3) := by decide +kernel
theorem dX1_ringLength_8 : decode cX1_ringLength 8 = .ok (.istore_n 2, 1) := by decide +kernel
theorem dX1_ringLength_9 : decode cX1_ringLength 9 = .ok (.iconst 1, 1) := by decide +kernel
theorem dX1_ringLength_10 : decode cX1_ringLength 10 = .ok (.istore_n 3, 1) := by decide +kernel
theorem dX1_ringLength_11 : decode cX1_ringLength 11 = .ok (.iload_n 2, 1) := by decide +kernel
theorem dX1_ringLength_12 : decode cX1_ringLength 12 = .ok (.iload_n 1, 1) := by decide +kernel
theorem dX1_ringLength_13 : decode cX1_ringLength 13 = .ok (.if_icmp .eq 24, 3) := by decide +kernel
theorem dX1_ringLength_16 : decode cX1_ringLength 16 = .ok (.iload_n 3, 1) := by decide +kernel
theorem dX1_ringLength_17 : decode cX1_ringLength 17 = .ok (.bipush 64, 2) := by decide +kernel
theorem dX1_ringLength_19 : decode cX1_ringLength 19 = .ok (.if_icmp .ge 18, 3) := by decide +kernel
theorem dX1_ringLength_22 : decode cX1_ringLength 22 = .ok (.aload_n 0, 1) := by decide +kernel
theorem dX1_ringLength_23 : decode cX1_ringLength 23 = .ok (.getfield 12, 3) := by decide +kernel
theorem dX1_ringLength_26 : decode cX1_ringLength 26 = .ok (.iload_n 2, 1) := by decide +kernel
theorem dX1_ringLength_27 : decode cX1_ringLength 27 = .ok (.invokevirtual 32, 3) := by decide +kernel
theorem dX1_ringLength_30 : decode cX1_ringLength 30 = .ok (.istore_n 2, 1) := by decide +kernel
theorem dX1_ringLength_31 : decode cX1_ringLength 31 = .ok (.iinc 3 1, 3) := by decide +kernel
theorem dX1_ringLength_34 : decode cX1_ringLength 34 = .ok (.goto (-23), 3) := by decide +kernel
theorem dX1_ringLength_37 : decode cX1_ringLength 37 = .ok (.iload_n 3, 1) := by decide +kernel
theorem dX1_ringLength_38 : decode cX1_ringLength 38 = .ok (.ireturn, 1) := by decide +kernel
def sm_X1_ringLength_11 (K11 : Nat → Int32 → Int32 → Int32 → aw_H → Prop) (Q : aw_R) (p0 : Nat) (x1 : Int32) (x2 : Int32) (x3 : Int32) (h : aw_H) : Prop :=
  if x2 = x1 then (Q (some (.int x3)) h) else (if 64 ≤ x3 then (Q (some (.int x3)) h) else (sg_R h p0 1 0 fun q1 => sv_O h q1 0 (tr_X0_run [.ref q1, .int x2] h fun r3 h2 => sr_I r3 fun v4 => K11 p0 x1 v4 (x3 + 1) h2)))
set_option maxRecDepth 100000 in
set_option maxHeartbeats 4000000 in
theorem bl_X1_ringLength_11 {X : aw_X} {Q : aw_R} (C : aw_C X cX1_ringLength RX1 4 4) (Z : aw_Z X cX1_ringLength (some .int) Q) (p0 : Nat) (x1 : Int32) (x2 : Int32) (x3 : Int32) (h : aw_H) (hh : sm_X1_ringLength_11 (fun (p0 : Nat) (x1 : Int32) (x2 : Int32) (x3 : Int32) (h : aw_H) => Sat X 11 [.ref p0, .int x1, .int x2, .int x3] [] h) Q p0 x1 x2 x3 h) : Sat X 11 [.ref p0, .int x1, .int x2, .int x3] [] h := by
  unfold sm_X1_ringLength_11 at hh
  refine ow_iload_n C dX1_ringLength_11 rfl rfl ?_
  refine ow_iload_n C dX1_ringLength_12 rfl rfl ?_
  refine ow_icmp_eq (tgt := 37) C dX1_ringLength_13 (by decide) hh (fun hh => ?_) (fun hh => ?_)
  · skip
    refine ow_iload_n C dX1_ringLength_37 rfl rfl ?_
    exact ow_iret Z dX1_ringLength_38 trivial hh
  · skip
    refine ow_iload_n C dX1_ringLength_16 rfl rfl ?_
    refine ow_bipush (v := 64) C dX1_ringLength_17 rfl ?_
    refine ow_icmp_ge (tgt := 37) C dX1_ringLength_19 (by decide) hh (fun hh => ?_) (fun hh => ?_)
    · skip
      refine ow_iload_n C dX1_ringLength_37 rfl rfl ?_
      exact ow_iret Z dX1_ringLength_38 trivial hh
    · skip
      refine ow_aload_n C dX1_ringLength_22 rfl rfl ?_
      refine ow_getR (ci := 1) (k := 0) (T := TX1) C rfl igX1 (by decide) kw_199 dX1_ringLength_23 hh (fun q1 hh => ?_)
      refine ow_iload_n C dX1_ringLength_26 rfl rfl ?_
      refine ow_callV C (cv_X0_run _) (Nat.le_of_ble_eq_true rfl) kw_200 dX1_ringLength_27 (as := [.int x2]) (st := []) rfl rfl (Nat.le_of_ble_eq_true rfl) hh (fun r3 h2 hq => ?_)
      obtain ⟨v4, rfl, hh⟩ := sr_I_e hq
      show Sat X 30 [.ref p0, .int x1, .int x2, .int x3] [.int v4] h2
      refine ow_istore_n (L' := [.ref p0, .int x1, .int v4, .int x3]) C dX1_ringLength_30 rfl (by decide) rfl ?_
      refine ow_iinc (v := x3 + 1) (L' := [.ref p0, .int x1, .int v4, .int (x3 + 1)]) C dX1_ringLength_31 rfl rfl (by decide) rfl ?_
      refine ow_goto (tgt := 11) C dX1_ringLength_34 (by decide) ?_
      exact Sat.mask hh (mk_y (mk_y (mk_y (mk_y mk_0))))
def sm_X1_ringLength_0 (K11 : Nat → Int32 → Int32 → Int32 → aw_H → Prop) (Q : aw_R) (p0 : Nat) (x1 : Int32) (h : aw_H) : Prop :=
  sg_R h p0 1 0 fun q1 => sv_O h q1 0 (tr_X0_run [.ref q1, .int x1] h fun r3 h2 => sr_I r3 fun v4 => K11 p0 x1 v4 1 h2)
set_option maxRecDepth 100000 in
set_option maxHeartbeats 4000000 in
theorem bl_X1_ringLength_0 {X : aw_X} {Q : aw_R} (C : aw_C X cX1_ringLength RX1 4 4) (Z : aw_Z X cX1_ringLength (some .int) Q) (p0 : Nat) (x1 : Int32) (h : aw_H) (hh : sm_X1_ringLength_0 (fun (p0 : Nat) (x1 : Int32) (x2 : Int32) (x3 : Int32) (h : aw_H) => Sat X 11 [.ref p0, .int x1, .int x2, .int x3] [] h) Q p0 x1 h) : Sat X 0 [.ref p0, .int x1, Value.null, Value.null] [] h := by
  unfold sm_X1_ringLength_0 at hh
  refine ow_aload_n C dX1_ringLength_0 rfl rfl ?_
  refine ow_getR (ci := 1) (k := 0) (T := TX1) C rfl igX1 (by decide) kw_199 dX1_ringLength_1 hh (fun q1 hh => ?_)
  refine ow_iload_n C dX1_ringLength_4 rfl rfl ?_
  refine ow_callV C (cv_X0_run _) (Nat.le_of_ble_eq_true rfl) kw_200 dX1_ringLength_5 (as := [.int x1]) (st := []) rfl rfl (Nat.le_of_ble_eq_true rfl) hh (fun r3 h2 hq => ?_)
  obtain ⟨v4, rfl, hh⟩ := sr_I_e hq
  show Sat X 8 [.ref p0, .int x1, Value.null, Value.null] [.int v4] h2
  refine ow_istore_n (L' := [.ref p0, .int x1, .int v4, Value.null]) C dX1_ringLength_8 rfl (by decide) rfl ?_
  refine ow_iconst (v := 1) C dX1_ringLength_9 rfl ?_
  refine ow_istore_n (L' := [.ref p0, .int x1, .int v4, .int 1]) C dX1_ringLength_10 rfl (by decide) rfl ?_
  exact Sat.mask hh (mk_y (mk_y (mk_y (mk_y mk_0))))
def tr_X1_ringLength : aw_T := fun as h Q => ∃ (p0 : Nat) (x1 : Int32), as = [.ref p0, .int x1] ∧ (∀ (K11 : Nat → Int32 → Int32 → Int32 → aw_H → Prop), (∀ (p0 : Nat) (x1 : Int32) (x2 : Int32) (x3 : Int32) (h : aw_H), sm_X1_ringLength_11 K11 Q p0 x1 x2 x3 h → K11 p0 x1 x2 x3 h) → sm_X1_ringLength_0 K11 Q p0 x1 h)
theorem tq_X1_ringLength {p0 : Nat} {x1 : Int32} {h : aw_H} {Q : aw_R} : tr_X1_ringLength [.ref p0, .int x1] h Q ↔ (∀ (K11 : Nat → Int32 → Int32 → Int32 → aw_H → Prop), (∀ (p0 : Nat) (x1 : Int32) (x2 : Int32) (x3 : Int32) (h : aw_H), sm_X1_ringLength_11 K11 Q p0 x1 x2 x3 h → K11 p0 x1 x2 x3 h) → sm_X1_ringLength_0 K11 Q p0 x1 h) := by
  constructor
  · rintro ⟨_, _, as0, hh⟩
    cases as0
    exact hh
  · intro hh
    exact ⟨_, _, rfl, hh⟩
theorem ct_X1_ringLength (E : aw_F) : CT E yX1_ringLength cX1_ringLength 4 (some .int) 4 tr_X1_ringLength := by
  refine ct_of (by decide) ?_
  intro X Q as h hE C Z hG
  subst hE
  obtain ⟨p0, x1, rfl, hh⟩ := hG
  refine ⟨[.ref p0, .int x1, Value.null, Value.null], rfl, Nat.le_of_ble_eq_true rfl, ?_⟩
  exact bl_X1_ringLength_0 C Z p0 x1 h (hh (fun (p0 : Nat) (x1 : Int32) (x2 : Int32) (x3 : Int32) (h : aw_H) => Sat X 11 [.ref p0, .int x1, .int x2, .int x3] [] h) (fun p0 x1 x2 x3 h hh => bl_X1_ringLength_11 C Z p0 x1 x2 x3 h hh))
theorem cv_X1_ringLength (E : aw_F) : CV E yX1_ringLength cX1_ringLength 4 (some .int) 4 1 1 tr_X1_ringLength := ⟨ct_X1_ringLength E, by decide, kw_207, kw_208, kw_203, kw_206, by decide +kernel, _, _, rfl⟩
theorem dX1_behindRuns_0 : decode cX1_behindRuns 0 = .ok (.aload_n 0, 1) := by decide +kernel
theorem dX1_behindRuns_1 : decode cX1_behindRuns 1 = .ok (.iload_n 1, 1) := by decide +kernel
theorem dX1_behindRuns_2 : decode cX1_behindRuns 2 = .ok (.invokevirtual 36, 3) := by decide +kernel
theorem dX1_behindRuns_5 : decode cX1_behindRuns 5 = .ok (.istore_n 3, 1) := by decide +kernel
theorem dX1_behindRuns_6 : decode cX1_behindRuns 6 = .ok (.iload_n 3, 1) := by decide +kernel
theorem dX1_behindRuns_7 : decode cX1_behindRuns 7 = .ok (.ifCond .le 9, 3) := by decide +kernel
theorem dX1_behindRuns_10 : decode cX1_behindRuns 10 = .ok (.iload_n 2, 1) := by decide +kernel
theorem dX1_behindRuns_11 : decode cX1_behindRuns 11 = .ok (.iload_n 3, 1) := by decide +kernel
theorem dX1_behindRuns_12 : decode cX1_behindRuns 12 = .ok (.irem, 1) := by decide +kernel
theorem dX1_behindRuns_13 : decode cX1_behindRuns 13 = .ok (.goto 4, 3) := by decide +kernel
theorem dX1_behindRuns_16 : decode cX1_behindRuns 16 = .ok (.iconst 0, 1) := by decide +kernel
theorem dX1_behindRuns_17 : decode cX1_behindRuns 17 = .ok (.istore 4, 2) := by decide +kernel
theorem dX1_behindRuns_19 : decode cX1_behindRuns 19 = .ok (.iload_n 1, 1) := by decide +kernel
theorem dX1_behindRuns_20 : decode cX1_behindRuns 20 = .ok (.istore 5, 2) := by decide +kernel
theorem dX1_behindRuns_22 : decode cX1_behindRuns 22 = .ok (.iconst 0, 1) := by decide +kernel
theorem dX1_behindRuns_23 : decode cX1_behindRuns 23 = .ok (.istore 6, 2) := by decide +kernel
theorem dX1_behindRuns_25 : decode cX1_behindRuns 25 = .ok (.iload 6, 2) := by decide +kernel
theorem dX1_behindRuns_27 : decode cX1_behindRuns 27 = .ok (.iload 4, 2) := by decide +kernel
theorem dX1_behindRuns_29 : decode cX1_behindRuns 29 = .ok (.if_icmp .ge 20, 3) := by decide +kernel
theorem dX1_behindRuns_32 : decode cX1_behindRuns 32 = .ok (.aload_n 0, 1) := by decide +kernel
theorem dX1_behindRuns_33 : decode cX1_behindRuns 33 = .ok (.getfield 12, 3) := by decide +kernel
theorem dX1_behindRuns_36 : decode cX1_behindRuns 36 = .ok (.iload 5, 2) := by decide +kernel
theorem dX1_behindRuns_38 : decode cX1_behindRuns 38 = .ok (.invokevirtual 32, 3) := by decide +kernel
theorem dX1_behindRuns_41 : decode cX1_behindRuns 41 = .ok (.istore 5, 2) := by decide +kernel
theorem dX1_behindRuns_43 : decode cX1_behindRuns 43 = .ok (.iinc 6 1, 3) := by decide +kernel
theorem dX1_behindRuns_46 : decode cX1_behindRuns 46 = .ok (.goto (-21), 3) := by decide +kernel
theorem dX1_behindRuns_49 : decode cX1_behindRuns 49 = .ok (.iload 5, 2) := by decide +kernel
theorem dX1_behindRuns_51 : decode cX1_behindRuns 51 = .ok (.ireturn, 1) := by decide +kernel
def sm_X1_behindRuns_25 (K25 : Nat → Int32 → Int32 → Int32 → aw_H → Prop) (Q : aw_R) (p0 : Nat) (x4 : Int32) (x5 : Int32) (x6 : Int32) (h : aw_H) : Prop :=
  if x4 ≤ x6 then (Q (some (.int x5)) h) else (sg_R h p0 1 0 fun q1 => sv_O h q1 0 (tr_X0_run [.ref q1, .int x5] h fun r3 h2 => sr_I r3 fun v4 => K25 p0 x4 v4 (x6 + 1) h2))
set_option maxRecDepth 100000 in
set_option maxHeartbeats 4000000 in
theorem bl_X1_behindRuns_25 {X : aw_X} {Q : aw_R} (C : aw_C X cX1_behindRuns RX1 7 5) (Z : aw_Z X cX1_behindRuns (some .int) Q) (p0 : Nat) (x4 : Int32) (x5 : Int32) (x6 : Int32) (h : aw_H) (hh : sm_X1_behindRuns_25 (fun (p0 : Nat) (x4 : Int32) (x5 : Int32) (x6 : Int32) (h : aw_H) => Sat X 25 [.ref p0, Value.null, Value.null, Value.null, .int x4, .int x5, .int x6] [] h) Q p0 x4 x5 x6 h) : Sat X 25 [.ref p0, Value.null, Value.null, Value.null, .int x4, .int x5, .int x6] [] h := by
  unfold sm_X1_behindRuns_25 at hh
  refine ow_iload C dX1_behindRuns_25 rfl ?_
  refine ow_iload C dX1_behindRuns_27 rfl ?_
  refine ow_icmp_ge (tgt := 49) C dX1_behindRuns_29 (by decide) hh (fun hh => ?_) (fun hh => ?_)
  · skip
    refine ow_iload C dX1_behindRuns_49 rfl ?_
    exact ow_iret Z dX1_behindRuns_51 trivial hh
  · skip
    refine ow_aload_n C dX1_behindRuns_32 rfl rfl ?_
    refine ow_getR (ci := 1) (k := 0) (T := TX1) C rfl igX1 (by decide) kw_199 dX1_behindRuns_33 hh (fun q1 hh => ?_)
    refine ow_iload C dX1_behindRuns_36 rfl ?_
    refine ow_callV C (cv_X0_run _) (Nat.le_of_ble_eq_true rfl) kw_200 dX1_behindRuns_38 (as := [.int x5]) (st := []) rfl rfl (Nat.le_of_ble_eq_true rfl) hh (fun r3 h2 hq => ?_)
    obtain ⟨v4, rfl, hh⟩ := sr_I_e hq
    show Sat X 41 [.ref p0, Value.null, Value.null, Value.null, .int x4, .int x5, .int x6] [.int v4] h2
    refine ow_istore (L' := [.ref p0, Value.null, Value.null, Value.null, .int x4, .int v4, .int x6]) C dX1_behindRuns_41 (by decide) rfl ?_
    refine ow_iinc (v := x6 + 1) (L' := [.ref p0, Value.null, Value.null, Value.null, .int x4, .int v4, .int (x6 + 1)]) C dX1_behindRuns_43 rfl rfl (by decide) rfl ?_
    refine ow_goto (tgt := 25) C dX1_behindRuns_46 (by decide) ?_
    exact Sat.mask hh (mk_y (mk_n (mk_n (mk_n (mk_y (mk_y (mk_y mk_0)))))))
def sm_X1_behindRuns_0 (K25 : Nat → Int32 → Int32 → Int32 → aw_H → Prop) (Q : aw_R) (p0 : Nat) (x1 : Int32) (x2 : Int32) (h : aw_H) : Prop :=
  sv_O h p0 1 (tr_X1_ringLength [.ref p0, .int x1] h fun r2 h1 => sr_I r2 fun v3 => if v3 ≤ 0 then (K25 p0 0 x1 0 h1) else (¬ v3 = 0 ∧ (K25 p0 (x2 - x2 / v3 * v3) x1 0 h1)))
set_option maxRecDepth 100000 in
set_option maxHeartbeats 4000000 in
theorem bl_X1_behindRuns_0 {X : aw_X} {Q : aw_R} (C : aw_C X cX1_behindRuns RX1 7 5) (Z : aw_Z X cX1_behindRuns (some .int) Q) (p0 : Nat) (x1 : Int32) (x2 : Int32) (h : aw_H) (hh : sm_X1_behindRuns_0 (fun (p0 : Nat) (x4 : Int32) (x5 : Int32) (x6 : Int32) (h : aw_H) => Sat X 25 [.ref p0, Value.null, Value.null, Value.null, .int x4, .int x5, .int x6] [] h) Q p0 x1 x2 h) : Sat X 0 [.ref p0, .int x1, .int x2, Value.null, Value.null, Value.null, Value.null] [] h := by
  unfold sm_X1_behindRuns_0 at hh
  refine ow_aload_n C dX1_behindRuns_0 rfl rfl ?_
  refine ow_iload_n C dX1_behindRuns_1 rfl rfl ?_
  refine ow_callV C (cv_X1_ringLength _) (Nat.le_of_ble_eq_true rfl) kw_209 dX1_behindRuns_2 (as := [.int x1]) (st := []) rfl rfl (Nat.le_of_ble_eq_true rfl) hh (fun r2 h1 hq => ?_)
  obtain ⟨v3, rfl, hh⟩ := sr_I_e hq
  show Sat X 5 [.ref p0, .int x1, .int x2, Value.null, Value.null, Value.null, Value.null] [.int v3] h1
  refine ow_istore_n (L' := [.ref p0, .int x1, .int x2, .int v3, Value.null, Value.null, Value.null]) C dX1_behindRuns_5 rfl (by decide) rfl ?_
  refine ow_iload_n C dX1_behindRuns_6 rfl rfl ?_
  refine ow_if_le (tgt := 16) C dX1_behindRuns_7 (by decide) hh (fun hh => ?_) (fun hh => ?_)
  · skip
    refine ow_iconst (v := 0) C dX1_behindRuns_16 rfl ?_
    refine ow_istore (L' := [.ref p0, .int x1, .int x2, .int v3, .int 0, Value.null, Value.null]) C dX1_behindRuns_17 (by decide) rfl ?_
    refine ow_iload_n C dX1_behindRuns_19 rfl rfl ?_
    refine ow_istore (L' := [.ref p0, .int x1, .int x2, .int v3, .int 0, .int x1, Value.null]) C dX1_behindRuns_20 (by decide) rfl ?_
    refine ow_iconst (v := 0) C dX1_behindRuns_22 rfl ?_
    refine ow_istore (L' := [.ref p0, .int x1, .int x2, .int v3, .int 0, .int x1, .int 0]) C dX1_behindRuns_23 (by decide) rfl ?_
    exact Sat.mask hh (mk_y (mk_n (mk_n (mk_n (mk_y (mk_y (mk_y mk_0)))))))
  · skip
    refine ow_iload_n C dX1_behindRuns_10 rfl rfl ?_
    refine ow_iload_n C dX1_behindRuns_11 rfl rfl ?_
    refine ow_irem C dX1_behindRuns_12 hh (fun hh => ?_)
    refine ow_goto (tgt := 17) C dX1_behindRuns_13 (by decide) ?_
    refine ow_istore (L' := [.ref p0, .int x1, .int x2, .int v3, .int (x2 - x2 / v3 * v3), Value.null, Value.null]) C dX1_behindRuns_17 (by decide) rfl ?_
    refine ow_iload_n C dX1_behindRuns_19 rfl rfl ?_
    refine ow_istore (L' := [.ref p0, .int x1, .int x2, .int v3, .int (x2 - x2 / v3 * v3), .int x1, Value.null]) C dX1_behindRuns_20 (by decide) rfl ?_
    refine ow_iconst (v := 0) C dX1_behindRuns_22 rfl ?_
    refine ow_istore (L' := [.ref p0, .int x1, .int x2, .int v3, .int (x2 - x2 / v3 * v3), .int x1, .int 0]) C dX1_behindRuns_23 (by decide) rfl ?_
    exact Sat.mask hh (mk_y (mk_n (mk_n (mk_n (mk_y (mk_y (mk_y mk_0)))))))
def tr_X1_behindRuns : aw_T := fun as h Q => ∃ (p0 : Nat) (x1 : Int32) (x2 : Int32), as = [.ref p0, .int x1, .int x2] ∧ (∀ (K25 : Nat → Int32 → Int32 → Int32 → aw_H → Prop), (∀ (p0 : Nat) (x4 : Int32) (x5 : Int32) (x6 : Int32) (h : aw_H), sm_X1_behindRuns_25 K25 Q p0 x4 x5 x6 h → K25 p0 x4 x5 x6 h) → sm_X1_behindRuns_0 K25 Q p0 x1 x2 h)
theorem tq_X1_behindRuns {p0 : Nat} {x1 : Int32} {x2 : Int32} {h : aw_H} {Q : aw_R} : tr_X1_behindRuns [.ref p0, .int x1, .int x2] h Q ↔ (∀ (K25 : Nat → Int32 → Int32 → Int32 → aw_H → Prop), (∀ (p0 : Nat) (x4 : Int32) (x5 : Int32) (x6 : Int32) (h : aw_H), sm_X1_behindRuns_25 K25 Q p0 x4 x5 x6 h → K25 p0 x4 x5 x6 h) → sm_X1_behindRuns_0 K25 Q p0 x1 x2 h) := by
  constructor
  · rintro ⟨_, _, _, as0, hh⟩
    cases as0
    exact hh
  · intro hh
    exact ⟨_, _, _, rfl, hh⟩
theorem ct_X1_behindRuns (E : aw_F) : CT E yX1_behindRuns cX1_behindRuns 7 (some .int) 5 tr_X1_behindRuns := by
  refine ct_of (by decide) ?_
  intro X Q as h hE C Z hG
  subst hE
  obtain ⟨p0, x1, x2, rfl, hh⟩ := hG
  refine ⟨[.ref p0, .int x1, .int x2, Value.null, Value.null, Value.null, Value.null], rfl, Nat.le_of_ble_eq_true rfl, ?_⟩
  exact bl_X1_behindRuns_0 C Z p0 x1 x2 h (hh (fun (p0 : Nat) (x4 : Int32) (x5 : Int32) (x6 : Int32) (h : aw_H) => Sat X 25 [.ref p0, Value.null, Value.null, Value.null, .int x4, .int x5, .int x6] [] h) (fun p0 x4 x5 x6 h hh => bl_X1_behindRuns_25 C Z p0 x4 x5 x6 h hh))
theorem cv_X1_behindRuns (E : aw_F) : CV E yX1_behindRuns cX1_behindRuns 7 (some .int) 5 2 1 tr_X1_behindRuns := ⟨ct_X1_behindRuns E, by decide, kw_211, kw_212, kw_203, kw_210, by decide +kernel, _, _, rfl⟩
theorem dX1_commonDivisor_0 : decode cX1_commonDivisor 0 = .ok (.iload_n 0, 1) := by decide +kernel
theorem dX1_commonDivisor_1 : decode cX1_commonDivisor 1 = .ok (.istore_n 2, 1) := by decide +kernel
theorem dX1_commonDivisor_2 : decode cX1_commonDivisor 2 = .ok (.iload_n 1, 1) := by decide +kernel
theorem dX1_commonDivisor_3 : decode cX1_commonDivisor 3 = .ok (.istore_n 3, 1) := by decide +kernel
theorem dX1_commonDivisor_4 : decode cX1_commonDivisor 4 = .ok (.iconst 0, 1) := by decide +kernel
theorem dX1_commonDivisor_5 : decode cX1_commonDivisor 5 = .ok (.istore 4, 2) := by decide +kernel
theorem dX1_commonDivisor_7 : decode cX1_commonDivisor 7 = .ok (.iload 4, 2) := by decide +kernel
theorem dX1_commonDivisor_9 : decode cX1_commonDivisor 9 = .ok (.bipush 64, 2) := by decide +kernel
theorem dX1_commonDivisor_11 : decode cX1_commonDivisor 11 = .ok (.if_icmp .ge 23, 3) := by decide +kernel
theorem dX1_commonDivisor_14 : decode cX1_commonDivisor 14 = .ok (.iload_n 3, 1) := by decide +kernel
theorem dX1_commonDivisor_15 : decode cX1_commonDivisor 15 = .ok (.ifCond .eq 19, 3) := by decide +kernel
theorem dX1_commonDivisor_18 : decode cX1_commonDivisor 18 = .ok (.iload_n 2, 1) := by decide +kernel
theorem dX1_commonDivisor_19 : decode cX1_commonDivisor 19 = .ok (.iload_n 3, 1) := by decide +kernel
theorem dX1_commonDivisor_20 : decode cX1_commonDivisor 20 = .ok (.irem, 1) := by decide +kernel
theorem dX1_commonDivisor_21 : decode cX1_commonDivisor 21 = .ok (.istore 5, 2) := by decide +kernel
theorem dX1_commonDivisor_23 : decode cX1_commonDivisor 23 = .ok (.iload_n 3, 1) := by decide +kernel
theorem dX1_commonDivisor_24 : decode cX1_commonDivisor 24 = .ok (.istore_n 2, 1) := by decide +kernel
theorem dX1_commonDivisor_25 : decode cX1_commonDivisor 25 = .ok (.iload 5, 2) := by decide +kernel
theorem dX1_commonDivisor_27 : decode cX1_commonDivisor 27 = .ok (.istore_n 3, 1) := by decide +kernel
theorem dX1_commonDivisor_28 : decode cX1_commonDivisor 28 = .ok (.iinc 4 1, 3) := by decide +kernel
theorem dX1_commonDivisor_31 : decode cX1_commonDivisor 31 = .ok (.goto (-24), 3) := by decide +kernel
theorem dX1_commonDivisor_34 : decode cX1_commonDivisor 34 = .ok (.iload_n 2, 1) := by decide +kernel
theorem dX1_commonDivisor_35 : decode cX1_commonDivisor 35 = .ok (.ireturn, 1) := by decide +kernel
def sm_X1_commonDivisor_7 (K7 : Int32 → Int32 → Int32 → aw_H → Prop) (Q : aw_R) (x2 : Int32) (x3 : Int32) (x4 : Int32) (h : aw_H) : Prop :=
  if 64 ≤ x4 then (Q (some (.int x2)) h) else (if x3 = 0 then (Q (some (.int x2)) h) else (¬ x3 = 0 ∧ (K7 x3 (x2 - x2 / x3 * x3) (x4 + 1) h)))
set_option maxRecDepth 100000 in
set_option maxHeartbeats 4000000 in
theorem bl_X1_commonDivisor_7 {X : aw_X} {Q : aw_R} (C : aw_C X cX1_commonDivisor RX1 6 0) (Z : aw_Z X cX1_commonDivisor (some .int) Q) (x2 : Int32) (x3 : Int32) (x4 : Int32) (h : aw_H) (hh : sm_X1_commonDivisor_7 (fun (x2 : Int32) (x3 : Int32) (x4 : Int32) (h : aw_H) => Sat X 7 [Value.null, Value.null, .int x2, .int x3, .int x4, Value.null] [] h) Q x2 x3 x4 h) : Sat X 7 [Value.null, Value.null, .int x2, .int x3, .int x4, Value.null] [] h := by
  unfold sm_X1_commonDivisor_7 at hh
  refine ow_iload C dX1_commonDivisor_7 rfl ?_
  refine ow_bipush (v := 64) C dX1_commonDivisor_9 rfl ?_
  refine ow_icmp_ge (tgt := 34) C dX1_commonDivisor_11 (by decide) hh (fun hh => ?_) (fun hh => ?_)
  · skip
    refine ow_iload_n C dX1_commonDivisor_34 rfl rfl ?_
    exact ow_iret Z dX1_commonDivisor_35 trivial hh
  · skip
    refine ow_iload_n C dX1_commonDivisor_14 rfl rfl ?_
    refine ow_if_eq (tgt := 34) C dX1_commonDivisor_15 (by decide) hh (fun hh => ?_) (fun hh => ?_)
    · skip
      refine ow_iload_n C dX1_commonDivisor_34 rfl rfl ?_
      exact ow_iret Z dX1_commonDivisor_35 trivial hh
    · skip
      refine ow_iload_n C dX1_commonDivisor_18 rfl rfl ?_
      refine ow_iload_n C dX1_commonDivisor_19 rfl rfl ?_
      refine ow_irem C dX1_commonDivisor_20 hh (fun hh => ?_)
      refine ow_istore (L' := [Value.null, Value.null, .int x2, .int x3, .int x4, .int (x2 - x2 / x3 * x3)]) C dX1_commonDivisor_21 (by decide) rfl ?_
      refine ow_iload_n C dX1_commonDivisor_23 rfl rfl ?_
      refine ow_istore_n (L' := [Value.null, Value.null, .int x3, .int x3, .int x4, .int (x2 - x2 / x3 * x3)]) C dX1_commonDivisor_24 rfl (by decide) rfl ?_
      refine ow_iload C dX1_commonDivisor_25 rfl ?_
      refine ow_istore_n (L' := [Value.null, Value.null, .int x3, .int (x2 - x2 / x3 * x3), .int x4, .int (x2 - x2 / x3 * x3)]) C dX1_commonDivisor_27 rfl (by decide) rfl ?_
      refine ow_iinc (v := x4 + 1) (L' := [Value.null, Value.null, .int x3, .int (x2 - x2 / x3 * x3), .int (x4 + 1), .int (x2 - x2 / x3 * x3)]) C dX1_commonDivisor_28 rfl rfl (by decide) rfl ?_
      refine ow_goto (tgt := 7) C dX1_commonDivisor_31 (by decide) ?_
      exact Sat.mask hh (mk_n (mk_n (mk_y (mk_y (mk_y (mk_n mk_0))))))
def sm_X1_commonDivisor_0 (K7 : Int32 → Int32 → Int32 → aw_H → Prop) (Q : aw_R) (x0 : Int32) (x1 : Int32) (h : aw_H) : Prop :=
  K7 x0 x1 0 h
set_option maxRecDepth 100000 in
set_option maxHeartbeats 4000000 in
theorem bl_X1_commonDivisor_0 {X : aw_X} {Q : aw_R} (C : aw_C X cX1_commonDivisor RX1 6 0) (Z : aw_Z X cX1_commonDivisor (some .int) Q) (x0 : Int32) (x1 : Int32) (h : aw_H) (hh : sm_X1_commonDivisor_0 (fun (x2 : Int32) (x3 : Int32) (x4 : Int32) (h : aw_H) => Sat X 7 [Value.null, Value.null, .int x2, .int x3, .int x4, Value.null] [] h) Q x0 x1 h) : Sat X 0 [.int x0, .int x1, Value.null, Value.null, Value.null, Value.null] [] h := by
  unfold sm_X1_commonDivisor_0 at hh
  refine ow_iload_n C dX1_commonDivisor_0 rfl rfl ?_
  refine ow_istore_n (L' := [.int x0, .int x1, .int x0, Value.null, Value.null, Value.null]) C dX1_commonDivisor_1 rfl (by decide) rfl ?_
  refine ow_iload_n C dX1_commonDivisor_2 rfl rfl ?_
  refine ow_istore_n (L' := [.int x0, .int x1, .int x0, .int x1, Value.null, Value.null]) C dX1_commonDivisor_3 rfl (by decide) rfl ?_
  refine ow_iconst (v := 0) C dX1_commonDivisor_4 rfl ?_
  refine ow_istore (L' := [.int x0, .int x1, .int x0, .int x1, .int 0, Value.null]) C dX1_commonDivisor_5 (by decide) rfl ?_
  exact Sat.mask hh (mk_n (mk_n (mk_y (mk_y (mk_y (mk_n mk_0))))))
def tr_X1_commonDivisor : aw_T := fun as h Q => ∃ (x0 : Int32) (x1 : Int32), as = [.int x0, .int x1] ∧ (∀ (K7 : Int32 → Int32 → Int32 → aw_H → Prop), (∀ (x2 : Int32) (x3 : Int32) (x4 : Int32) (h : aw_H), sm_X1_commonDivisor_7 K7 Q x2 x3 x4 h → K7 x2 x3 x4 h) → sm_X1_commonDivisor_0 K7 Q x0 x1 h)
theorem tq_X1_commonDivisor {x0 : Int32} {x1 : Int32} {h : aw_H} {Q : aw_R} : tr_X1_commonDivisor [.int x0, .int x1] h Q ↔ (∀ (K7 : Int32 → Int32 → Int32 → aw_H → Prop), (∀ (x2 : Int32) (x3 : Int32) (x4 : Int32) (h : aw_H), sm_X1_commonDivisor_7 K7 Q x2 x3 x4 h → K7 x2 x3 x4 h) → sm_X1_commonDivisor_0 K7 Q x0 x1 h) := by
  constructor
  · rintro ⟨_, _, as0, hh⟩
    cases as0
    exact hh
  · intro hh
    exact ⟨_, _, rfl, hh⟩
theorem ct_X1_commonDivisor (E : aw_F) : CT E yX1_commonDivisor cX1_commonDivisor 6 (some .int) 0 tr_X1_commonDivisor := by
  refine ct_of (by decide) ?_
  intro X Q as h hE C Z hG
  subst hE
  obtain ⟨x0, x1, rfl, hh⟩ := hG
  refine ⟨[.int x0, .int x1, Value.null, Value.null, Value.null, Value.null], rfl, Nat.le_of_ble_eq_true rfl, ?_⟩
  exact bl_X1_commonDivisor_0 C Z x0 x1 h (hh (fun (x2 : Int32) (x3 : Int32) (x4 : Int32) (h : aw_H) => Sat X 7 [Value.null, Value.null, .int x2, .int x3, .int x4, Value.null] [] h) (fun x2 x3 x4 h hh => bl_X1_commonDivisor_7 C Z x2 x3 x4 h hh))
theorem cs_X1_commonDivisor (E : aw_F) : CS E yX1_commonDivisor cX1_commonDivisor 6 (some .int) 0 2 tr_X1_commonDivisor := ⟨ct_X1_commonDivisor E, by decide, kw_214, kw_203, kw_213, by decide +kernel⟩
theorem dX1_countRing_0 : decode cX1_countRing 0 = .ok (.aload_n 0, 1) := by decide +kernel
theorem dX1_countRing_1 : decode cX1_countRing 1 = .ok (.dup, 1) := by decide +kernel
theorem dX1_countRing_2 : decode cX1_countRing 2 = .ok (.getfield 42, 3) := by decide +kernel
theorem dX1_countRing_5 : decode cX1_countRing 5 = .ok (.iconst 1, 1) := by decide +kernel
theorem dX1_countRing_6 : decode cX1_countRing 6 = .ok (.iadd, 1) := by decide +kernel
theorem dX1_countRing_7 : decode cX1_countRing 7 = .ok (.putfield 42, 3) := by decide +kernel
theorem dX1_countRing_10 : decode cX1_countRing 10 = .ok (.aload_n 0, 1) := by decide +kernel
theorem dX1_countRing_11 : decode cX1_countRing 11 = .ok (.aload_n 0, 1) := by decide +kernel
theorem dX1_countRing_12 : decode cX1_countRing 12 = .ok (.getfield 46, 3) := by decide +kernel
theorem dX1_countRing_15 : decode cX1_countRing 15 = .ok (.iload_n 1, 1) := by decide +kernel
theorem dX1_countRing_16 : decode cX1_countRing 16 = .ok (.invokestatic 59, 3) := by decide +kernel
theorem dX1_countRing_19 : decode cX1_countRing 19 = .ok (.putfield 46, 3) := by decide +kernel
theorem dX1_countRing_22 : decode cX1_countRing 22 = .ok (.aload_n 0, 1) := by decide +kernel
theorem dX1_countRing_23 : decode cX1_countRing 23 = .ok (.dup, 1) := by decide +kernel
theorem dX1_countRing_24 : decode cX1_countRing 24 = .ok (.getfield 49, 3) := by decide +kernel
theorem dX1_countRing_27 : decode cX1_countRing 27 = .ok (.iload_n 1, 1) := by decide +kernel
theorem dX1_countRing_28 : decode cX1_countRing 28 = .ok (.iconst 1, 1) := by decide +kernel
theorem dX1_countRing_29 : decode cX1_countRing 29 = .ok (.if_icmp .ne 7, 3) := by decide +kernel
theorem dX1_countRing_32 : decode cX1_countRing 32 = .ok (.iconst 1, 1) := by decide +kernel
theorem dX1_countRing_33 : decode cX1_countRing 33 = .ok (.goto 4, 3) := by decide +kernel
theorem dX1_countRing_36 : decode cX1_countRing 36 = .ok (.iconst 0, 1) := by decide +kernel
theorem dX1_countRing_37 : decode cX1_countRing 37 = .ok (.iadd, 1) := by decide +kernel
theorem dX1_countRing_38 : decode cX1_countRing 38 = .ok (.putfield 49, 3) := by decide +kernel
theorem dX1_countRing_41 : decode cX1_countRing 41 = .ok (.aload_n 0, 1) := by decide +kernel
theorem dX1_countRing_42 : decode cX1_countRing 42 = .ok (.getfield 52, 3) := by decide +kernel
theorem dX1_countRing_45 : decode cX1_countRing 45 = .ok (.iload_n 1, 1) := by decide +kernel
theorem dX1_countRing_46 : decode cX1_countRing 46 = .ok (.invokestatic 65, 3) := by decide +kernel
theorem dX1_countRing_49 : decode cX1_countRing 49 = .ok (.istore_n 2, 1) := by decide +kernel
theorem dX1_countRing_50 : decode cX1_countRing 50 = .ok (.aload_n 0, 1) := by decide +kernel
theorem dX1_countRing_51 : decode cX1_countRing 51 = .ok (.iload_n 2, 1) := by decide +kernel
theorem dX1_countRing_52 : decode cX1_countRing 52 = .ok (.ifCond .le 14, 3) := by decide +kernel
theorem dX1_countRing_55 : decode cX1_countRing 55 = .ok (.aload_n 0, 1) := by decide +kernel
theorem dX1_countRing_56 : decode cX1_countRing 56 = .ok (.getfield 52, 3) := by decide +kernel
theorem dX1_countRing_59 : decode cX1_countRing 59 = .ok (.iload_n 2, 1) := by decide +kernel
theorem dX1_countRing_60 : decode cX1_countRing 60 = .ok (.idiv, 1) := by decide +kernel
theorem dX1_countRing_61 : decode cX1_countRing 61 = .ok (.iload_n 1, 1) := by decide +kernel
theorem dX1_countRing_62 : decode cX1_countRing 62 = .ok (.imul, 1) := by decide +kernel
theorem dX1_countRing_63 : decode cX1_countRing 63 = .ok (.goto 7, 3) := by decide +kernel
theorem dX1_countRing_66 : decode cX1_countRing 66 = .ok (.aload_n 0, 1) := by decide +kernel
theorem dX1_countRing_67 : decode cX1_countRing 67 = .ok (.getfield 52, 3) := by decide +kernel
theorem dX1_countRing_70 : decode cX1_countRing 70 = .ok (.putfield 52, 3) := by decide +kernel
theorem dX1_countRing_73 : decode cX1_countRing 73 = .ok (.return_, 1) := by decide +kernel
def sm_X1_countRing_37  (Q : aw_R) (p0 : Nat) (x1 : Int32) (ps0 : Nat) (xs1 : Int32) (xs2 : Int32) (h : aw_H) : Prop :=
  sp_I h ps0 1 6 (xs1 + xs2) fun h1 => sg_I h1 p0 1 7 fun v2 => tr_X1_commonDivisor [.int v2, .int x1] h1 fun r4 h3 => sr_I r4 fun v5 => if v5 ≤ 0 then (sg_I h3 p0 1 7 fun v6 => sp_I h3 p0 1 7 v6 fun h7 => Q none h7) else (sg_I h3 p0 1 7 fun v8 => ¬ v5 = 0 ∧ (sp_I h3 p0 1 7 ((v8 / v5) * x1) fun h9 => Q none h9))
set_option maxRecDepth 100000 in
set_option maxHeartbeats 4000000 in
theorem bl_X1_countRing_37 {X : aw_X} {Q : aw_R} (C : aw_C X cX1_countRing RX1 3 1) (Z : aw_Z X cX1_countRing none Q) (p0 : Nat) (x1 : Int32) (ps0 : Nat) (xs1 : Int32) (xs2 : Int32) (h : aw_H) (hh : sm_X1_countRing_37  Q p0 x1 ps0 xs1 xs2 h) : Sat X 37 [.ref p0, .int x1, Value.null] [.int xs2, .int xs1, .ref ps0] h := by
  unfold sm_X1_countRing_37 at hh
  refine ow_iadd C dX1_countRing_37 ?_
  refine ow_putI (ci := 1) (k := 6) (T := TX1) C rfl igX1 tyX1 tyX1_ok nmX1 (by decide) kw_215 rfl (by decide +kernel) dX1_countRing_38 hh (fun h1 hh => ?_)
  refine ow_aload_n C dX1_countRing_41 rfl rfl ?_
  refine ow_getI (ci := 1) (k := 7) (T := TX1) C rfl igX1 (by decide) kw_216 dX1_countRing_42 hh (fun v2 hh => ?_)
  refine ow_iload_n C dX1_countRing_45 rfl rfl ?_
  refine ow_callS C (cs_X1_commonDivisor _) (Nat.le_of_ble_eq_true rfl) kw_217 dX1_countRing_46 (as := [.int v2, .int x1]) (st := []) rfl rfl (Nat.le_of_ble_eq_true rfl) hh (fun r4 h3 hq => ?_)
  obtain ⟨v5, rfl, hh⟩ := sr_I_e hq
  show Sat X 49 [.ref p0, .int x1, Value.null] [.int v5] h3
  refine ow_istore_n (L' := [.ref p0, .int x1, .int v5]) C dX1_countRing_49 rfl (by decide) rfl ?_
  refine ow_aload_n C dX1_countRing_50 rfl rfl ?_
  refine ow_iload_n C dX1_countRing_51 rfl rfl ?_
  refine ow_if_le (tgt := 66) C dX1_countRing_52 (by decide) hh (fun hh => ?_) (fun hh => ?_)
  · skip
    refine ow_aload_n C dX1_countRing_66 rfl rfl ?_
    refine ow_getI (ci := 1) (k := 7) (T := TX1) C rfl igX1 (by decide) kw_216 dX1_countRing_67 hh (fun v6 hh => ?_)
    refine ow_putI (ci := 1) (k := 7) (T := TX1) C rfl igX1 tyX1 tyX1_ok nmX1 (by decide) kw_216 rfl (by decide +kernel) dX1_countRing_70 hh (fun h7 hh => ?_)
    exact ow_vret Z dX1_countRing_73 trivial hh
  · skip
    refine ow_aload_n C dX1_countRing_55 rfl rfl ?_
    refine ow_getI (ci := 1) (k := 7) (T := TX1) C rfl igX1 (by decide) kw_216 dX1_countRing_56 hh (fun v8 hh => ?_)
    refine ow_iload_n C dX1_countRing_59 rfl rfl ?_
    refine ow_idiv C dX1_countRing_60 hh (fun hh => ?_)
    refine ow_iload_n C dX1_countRing_61 rfl rfl ?_
    refine ow_imul C dX1_countRing_62 ?_
    refine ow_goto (tgt := 70) C dX1_countRing_63 (by decide) ?_
    refine ow_putI (ci := 1) (k := 7) (T := TX1) C rfl igX1 tyX1 tyX1_ok nmX1 (by decide) kw_216 rfl (by decide +kernel) dX1_countRing_70 hh (fun h9 hh => ?_)
    exact ow_vret Z dX1_countRing_73 trivial hh
def sm_X1_countRing_0  (Q : aw_R) (p0 : Nat) (x1 : Int32) (h : aw_H) : Prop :=
  sg_I h p0 1 4 fun v1 => sp_I h p0 1 4 (v1 + 1) fun h2 => sg_I h2 p0 1 5 fun v3 => sp_I h2 p0 1 5 (if v3 < x1 then x1 else v3) fun h4 => sg_I h4 p0 1 6 fun v5 => if ¬ x1 = 1 then (sm_X1_countRing_37  Q p0 x1 p0 v5 0 h4) else (sm_X1_countRing_37  Q p0 x1 p0 v5 1 h4)
set_option maxRecDepth 100000 in
set_option maxHeartbeats 4000000 in
theorem bl_X1_countRing_0 {X : aw_X} {Q : aw_R} (C : aw_C X cX1_countRing RX1 3 1) (Z : aw_Z X cX1_countRing none Q) (p0 : Nat) (x1 : Int32) (h : aw_H) (hh : sm_X1_countRing_0  Q p0 x1 h) : Sat X 0 [.ref p0, .int x1, Value.null] [] h := by
  unfold sm_X1_countRing_0 at hh
  refine ow_aload_n C dX1_countRing_0 rfl rfl ?_
  refine ow_dup C dX1_countRing_1 rfl ?_
  refine ow_getI (ci := 1) (k := 4) (T := TX1) C rfl igX1 (by decide) kw_218 dX1_countRing_2 hh (fun v1 hh => ?_)
  refine ow_iconst (v := 1) C dX1_countRing_5 rfl ?_
  refine ow_iadd C dX1_countRing_6 ?_
  refine ow_putI (ci := 1) (k := 4) (T := TX1) C rfl igX1 tyX1 tyX1_ok nmX1 (by decide) kw_218 rfl (by decide +kernel) dX1_countRing_7 hh (fun h2 hh => ?_)
  refine ow_aload_n C dX1_countRing_10 rfl rfl ?_
  refine ow_aload_n C dX1_countRing_11 rfl rfl ?_
  refine ow_getI (ci := 1) (k := 5) (T := TX1) C rfl igX1 (by decide) kw_219 dX1_countRing_12 hh (fun v3 hh => ?_)
  refine ow_iload_n C dX1_countRing_15 rfl rfl ?_
  refine ow_mmax C (Nat.le_of_ble_eq_true rfl) kw_220 kw_221 kw_131 kw_222 dX1_countRing_16 (Nat.le_of_ble_eq_true rfl) ?_
  refine ow_putI (ci := 1) (k := 5) (T := TX1) C rfl igX1 tyX1 tyX1_ok nmX1 (by decide) kw_219 rfl (by decide +kernel) dX1_countRing_19 hh (fun h4 hh => ?_)
  refine ow_aload_n C dX1_countRing_22 rfl rfl ?_
  refine ow_dup C dX1_countRing_23 rfl ?_
  refine ow_getI (ci := 1) (k := 6) (T := TX1) C rfl igX1 (by decide) kw_215 dX1_countRing_24 hh (fun v5 hh => ?_)
  refine ow_iload_n C dX1_countRing_27 rfl rfl ?_
  refine ow_iconst (v := 1) C dX1_countRing_28 rfl ?_
  refine ow_icmp_ne (tgt := 36) C dX1_countRing_29 (by decide) hh (fun hh => ?_) (fun hh => ?_)
  · skip
    refine ow_iconst (v := 0) C dX1_countRing_36 rfl ?_
    exact Sat.mask (bl_X1_countRing_37 C Z p0 x1 p0 v5 0 h4 hh) (mk_y (mk_y (mk_n mk_0)))
  · skip
    refine ow_iconst (v := 1) C dX1_countRing_32 rfl ?_
    refine ow_goto (tgt := 37) C dX1_countRing_33 (by decide) ?_
    exact Sat.mask (bl_X1_countRing_37 C Z p0 x1 p0 v5 1 h4 hh) (mk_y (mk_y (mk_n mk_0)))
def tr_X1_countRing : aw_T := fun as h Q => ∃ (p0 : Nat) (x1 : Int32), as = [.ref p0, .int x1] ∧ (sm_X1_countRing_0  Q p0 x1 h)
theorem tq_X1_countRing {p0 : Nat} {x1 : Int32} {h : aw_H} {Q : aw_R} : tr_X1_countRing [.ref p0, .int x1] h Q ↔ (sm_X1_countRing_0  Q p0 x1 h) := by
  constructor
  · rintro ⟨_, _, as0, hh⟩
    cases as0
    exact hh
  · intro hh
    exact ⟨_, _, rfl, hh⟩
theorem ct_X1_countRing (E : aw_F) : CT E yX1_countRing cX1_countRing 3 none 1 tr_X1_countRing := by
  refine ct_of (by decide) ?_
  intro X Q as h hE C Z hG
  subst hE
  obtain ⟨p0, x1, rfl, hh⟩ := hG
  refine ⟨[.ref p0, .int x1, Value.null], rfl, Nat.le_of_ble_eq_true rfl, ?_⟩
  exact bl_X1_countRing_0 C Z p0 x1 h hh
theorem cv_X1_countRing (E : aw_F) : CV E yX1_countRing cX1_countRing 3 none 1 1 1 tr_X1_countRing := ⟨ct_X1_countRing E, by decide, kw_224, kw_225, kw_203, kw_223, by decide +kernel, _, _, rfl⟩
theorem dX1_lookAtRings_0 : decode cX1_lookAtRings 0 = .ok (.aload_n 0, 1) := by decide +kernel
theorem dX1_lookAtRings_1 : decode cX1_lookAtRings 1 = .ok (.invokevirtual 39, 3) := by decide +kernel
theorem dX1_lookAtRings_4 : decode cX1_lookAtRings 4 = .ok (.aload_n 0, 1) := by decide +kernel
theorem dX1_lookAtRings_5 : decode cX1_lookAtRings 5 = .ok (.iconst 0, 1) := by decide +kernel
theorem dX1_lookAtRings_6 : decode cX1_lookAtRings 6 = .ok (.putfield 42, 3) := by decide +kernel
theorem dX1_lookAtRings_9 : decode cX1_lookAtRings 9 = .ok (.aload_n 0, 1) := by decide +kernel
theorem dX1_lookAtRings_10 : decode cX1_lookAtRings 10 = .ok (.iconst 0, 1) := by decide +kernel
theorem dX1_lookAtRings_11 : decode cX1_lookAtRings 11 = .ok (.putfield 46, 3) := by decide +kernel
theorem dX1_lookAtRings_14 : decode cX1_lookAtRings 14 = .ok (.aload_n 0, 1) := by decide +kernel
theorem dX1_lookAtRings_15 : decode cX1_lookAtRings 15 = .ok (.iconst 0, 1) := by decide +kernel
theorem dX1_lookAtRings_16 : decode cX1_lookAtRings 16 = .ok (.putfield 49, 3) := by decide +kernel
theorem dX1_lookAtRings_19 : decode cX1_lookAtRings 19 = .ok (.aload_n 0, 1) := by decide +kernel
theorem dX1_lookAtRings_20 : decode cX1_lookAtRings 20 = .ok (.iconst 1, 1) := by decide +kernel
theorem dX1_lookAtRings_21 : decode cX1_lookAtRings 21 = .ok (.putfield 52, 3) := by decide +kernel
theorem dX1_lookAtRings_24 : decode cX1_lookAtRings 24 = .ok (.lconst 0, 1) := by decide +kernel
theorem dX1_lookAtRings_25 : decode cX1_lookAtRings 25 = .ok (.lstore_n 1, 1) := by decide +kernel
theorem dX1_lookAtRings_26 : decode cX1_lookAtRings 26 = .ok (.aload_n 0, 1) := by decide +kernel
theorem dX1_lookAtRings_27 : decode cX1_lookAtRings 27 = .ok (.getfield 12, 3) := by decide +kernel
theorem dX1_lookAtRings_30 : decode cX1_lookAtRings 30 = .ok (.invokevirtual 28, 3) := by decide +kernel
theorem dX1_lookAtRings_33 : decode cX1_lookAtRings 33 = .ok (.istore_n 3, 1) := by decide +kernel
theorem dX1_lookAtRings_34 : decode cX1_lookAtRings 34 = .ok (.iconst 0, 1) := by decide +kernel
theorem dX1_lookAtRings_35 : decode cX1_lookAtRings 35 = .ok (.istore 4, 2) := by decide +kernel
theorem dX1_lookAtRings_37 : decode cX1_lookAtRings 37 = .ok (.iload 4, 2) := by decide +kernel
theorem dX1_lookAtRings_39 : decode cX1_lookAtRings 39 = .ok (.iload_n 3, 1) := by decide +kernel
theorem dX1_lookAtRings_40 : decode cX1_lookAtRings 40 = .ok (.if_icmp .ge 67, 3) := by decide +kernel
theorem dX1_lookAtRings_43 : decode cX1_lookAtRings 43 = .ok (.iconst 0, 1) := by decide +kernel
theorem dX1_lookAtRings_44 : decode cX1_lookAtRings 44 = .ok (.istore 5, 2) := by decide +kernel
theorem dX1_lookAtRings_46 : decode cX1_lookAtRings 46 = .ok (.iload 4, 2) := by decide +kernel
theorem dX1_lookAtRings_48 : decode cX1_lookAtRings 48 = .ok (.istore 6, 2) := by decide +kernel
theorem dX1_lookAtRings_50 : decode cX1_lookAtRings 50 = .ok (.lload_n 1, 1) := by decide +kernel
theorem dX1_lookAtRings_51 : decode cX1_lookAtRings 51 = .ok (.iload 6, 2) := by decide +kernel
theorem dX1_lookAtRings_53 : decode cX1_lookAtRings 53 = .ok (.lshr, 1) := by decide +kernel
theorem dX1_lookAtRings_54 : decode cX1_lookAtRings 54 = .ok (.lconst 1, 1) := by decide +kernel
theorem dX1_lookAtRings_55 : decode cX1_lookAtRings 55 = .ok (.land, 1) := by decide +kernel
theorem dX1_lookAtRings_56 : decode cX1_lookAtRings 56 = .ok (.lconst 0, 1) := by decide +kernel
theorem dX1_lookAtRings_57 : decode cX1_lookAtRings 57 = .ok (.lcmp, 1) := by decide +kernel
theorem dX1_lookAtRings_58 : decode cX1_lookAtRings 58 = .ok (.ifCond .ne 32, 3) := by decide +kernel
theorem dX1_lookAtRings_61 : decode cX1_lookAtRings 61 = .ok (.iload 5, 2) := by decide +kernel
theorem dX1_lookAtRings_63 : decode cX1_lookAtRings 63 = .ok (.bipush 64, 2) := by decide +kernel
theorem dX1_lookAtRings_65 : decode cX1_lookAtRings 65 = .ok (.if_icmp .ge 25, 3) := by decide +kernel
theorem dX1_lookAtRings_68 : decode cX1_lookAtRings 68 = .ok (.lload_n 1, 1) := by decide +kernel
theorem dX1_lookAtRings_69 : decode cX1_lookAtRings 69 = .ok (.lconst 1, 1) := by decide +kernel
theorem dX1_lookAtRings_70 : decode cX1_lookAtRings 70 = .ok (.iload 6, 2) := by decide +kernel
theorem dX1_lookAtRings_72 : decode cX1_lookAtRings 72 = .ok (.lshl, 1) := by decide +kernel
theorem dX1_lookAtRings_73 : decode cX1_lookAtRings 73 = .ok (.lor, 1) := by decide +kernel
theorem dX1_lookAtRings_74 : decode cX1_lookAtRings 74 = .ok (.lstore_n 1, 1) := by decide +kernel
theorem dX1_lookAtRings_75 : decode cX1_lookAtRings 75 = .ok (.iinc 5 1, 3) := by decide +kernel
theorem dX1_lookAtRings_78 : decode cX1_lookAtRings 78 = .ok (.aload_n 0, 1) := by decide +kernel
theorem dX1_lookAtRings_79 : decode cX1_lookAtRings 79 = .ok (.getfield 18, 3) := by decide +kernel
theorem dX1_lookAtRings_82 : decode cX1_lookAtRings 82 = .ok (.iload 6, 2) := by decide +kernel
theorem dX1_lookAtRings_84 : decode cX1_lookAtRings 84 = .ok (.iaload, 1) := by decide +kernel
theorem dX1_lookAtRings_85 : decode cX1_lookAtRings 85 = .ok (.istore 6, 2) := by decide +kernel
theorem dX1_lookAtRings_87 : decode cX1_lookAtRings 87 = .ok (.goto (-37), 3) := by decide +kernel
theorem dX1_lookAtRings_90 : decode cX1_lookAtRings 90 = .ok (.iload 5, 2) := by decide +kernel
theorem dX1_lookAtRings_92 : decode cX1_lookAtRings 92 = .ok (.ifCond .le 9, 3) := by decide +kernel
theorem dX1_lookAtRings_95 : decode cX1_lookAtRings 95 = .ok (.aload_n 0, 1) := by decide +kernel
theorem dX1_lookAtRings_96 : decode cX1_lookAtRings 96 = .ok (.iload 5, 2) := by decide +kernel
theorem dX1_lookAtRings_98 : decode cX1_lookAtRings 98 = .ok (.invokevirtual 55, 3) := by decide +kernel
theorem dX1_lookAtRings_101 : decode cX1_lookAtRings 101 = .ok (.iinc 4 1, 3) := by decide +kernel
theorem dX1_lookAtRings_104 : decode cX1_lookAtRings 104 = .ok (.goto (-67), 3) := by decide +kernel
theorem dX1_lookAtRings_107 : decode cX1_lookAtRings 107 = .ok (.return_, 1) := by decide +kernel
def sm_X1_lookAtRings_50 (K37 : Nat → Int64 → Int32 → Int32 → aw_H → Prop) (K50 : Nat → Int64 → Int32 → Int32 → Int32 → Int32 → aw_H → Prop) (Q : aw_R) (p0 : Nat) (w1 : Int64) (x3 : Int32) (x4 : Int32) (x5 : Int32) (x6 : Int32) (h : aw_H) : Prop :=
  if ¬ (lg_cmp ((w1 >>> (Int32.toInt64 x6 &&& 63)) &&& 1) 0) = 0 then (if x5 ≤ 0 then (K37 p0 w1 x3 (x4 + 1) h) else (sv_O h p0 1 (tr_X1_countRing [.ref p0, .int x5] h fun r2 h1 => sr_V r2 <| K37 p0 w1 x3 (x4 + 1) h1))) else (if 64 ≤ x5 then (if x5 ≤ 0 then (K37 p0 w1 x3 (x4 + 1) h) else (sv_O h p0 1 (tr_X1_countRing [.ref p0, .int x5] h fun r4 h3 => sr_V r4 <| K37 p0 w1 x3 (x4 + 1) h3))) else (sg_R h p0 1 1 fun q5 => sa_I h q5 x6 fun v6 => K50 p0 (w1 ||| (1 <<< (Int32.toInt64 x6 &&& 63))) x3 x4 (x5 + 1) v6 h))
set_option maxRecDepth 100000 in
set_option maxHeartbeats 4000000 in
theorem bl_X1_lookAtRings_50 {X : aw_X} {Q : aw_R} (C : aw_C X cX1_lookAtRings RX1 7 5) (Z : aw_Z X cX1_lookAtRings none Q) (p0 : Nat) (w1 : Int64) (x3 : Int32) (x4 : Int32) (x5 : Int32) (x6 : Int32) (h : aw_H) (hh : sm_X1_lookAtRings_50 (fun (p0 : Nat) (w1 : Int64) (x3 : Int32) (x4 : Int32) (h : aw_H) => Sat X 37 [.ref p0, .long w1, Value.null, .int x3, .int x4, Value.null, Value.null] [] h) (fun (p0 : Nat) (w1 : Int64) (x3 : Int32) (x4 : Int32) (x5 : Int32) (x6 : Int32) (h : aw_H) => Sat X 50 [.ref p0, .long w1, Value.null, .int x3, .int x4, .int x5, .int x6] [] h) Q p0 w1 x3 x4 x5 x6 h) : Sat X 50 [.ref p0, .long w1, Value.null, .int x3, .int x4, .int x5, .int x6] [] h := by
  unfold sm_X1_lookAtRings_50 at hh
  refine ow_lload_n C dX1_lookAtRings_50 rfl rfl ?_
  refine ow_iload C dX1_lookAtRings_51 rfl ?_
  refine ow_lshr C dX1_lookAtRings_53 ?_
  refine ow_lconst (v := 1) C dX1_lookAtRings_54 rfl ?_
  refine ow_land C dX1_lookAtRings_55 ?_
  refine ow_lconst (v := 0) C dX1_lookAtRings_56 rfl ?_
  refine ow_lcmp C dX1_lookAtRings_57 ?_
  refine ow_if_ne (tgt := 90) C dX1_lookAtRings_58 (by decide) hh (fun hh => ?_) (fun hh => ?_)
  · skip
    refine ow_iload C dX1_lookAtRings_90 rfl ?_
    refine ow_if_le (tgt := 101) C dX1_lookAtRings_92 (by decide) hh (fun hh => ?_) (fun hh => ?_)
    · skip
      refine ow_iinc (v := x4 + 1) (L' := [.ref p0, .long w1, Value.null, .int x3, .int (x4 + 1), .int x5, .int x6]) C dX1_lookAtRings_101 rfl rfl (by decide) rfl ?_
      refine ow_goto (tgt := 37) C dX1_lookAtRings_104 (by decide) ?_
      exact Sat.mask hh (mk_y (mk_y (mk_n (mk_y (mk_y (mk_n (mk_n mk_0)))))))
    · skip
      refine ow_aload_n C dX1_lookAtRings_95 rfl rfl ?_
      refine ow_iload C dX1_lookAtRings_96 rfl ?_
      refine ow_callV C (cv_X1_countRing _) (Nat.le_of_ble_eq_true rfl) kw_226 dX1_lookAtRings_98 (as := [.int x5]) (st := []) rfl rfl (Nat.le_of_ble_eq_true rfl) hh (fun r2 h1 hq => ?_)
      obtain ⟨rfl, hh⟩ := sr_V_e hq
      show Sat X 101 [.ref p0, .long w1, Value.null, .int x3, .int x4, .int x5, .int x6] [] h1
      refine ow_iinc (v := x4 + 1) (L' := [.ref p0, .long w1, Value.null, .int x3, .int (x4 + 1), .int x5, .int x6]) C dX1_lookAtRings_101 rfl rfl (by decide) rfl ?_
      refine ow_goto (tgt := 37) C dX1_lookAtRings_104 (by decide) ?_
      exact Sat.mask hh (mk_y (mk_y (mk_n (mk_y (mk_y (mk_n (mk_n mk_0)))))))
  · skip
    refine ow_iload C dX1_lookAtRings_61 rfl ?_
    refine ow_bipush (v := 64) C dX1_lookAtRings_63 rfl ?_
    refine ow_icmp_ge (tgt := 90) C dX1_lookAtRings_65 (by decide) hh (fun hh => ?_) (fun hh => ?_)
    · skip
      refine ow_iload C dX1_lookAtRings_90 rfl ?_
      refine ow_if_le (tgt := 101) C dX1_lookAtRings_92 (by decide) hh (fun hh => ?_) (fun hh => ?_)
      · skip
        refine ow_iinc (v := x4 + 1) (L' := [.ref p0, .long w1, Value.null, .int x3, .int (x4 + 1), .int x5, .int x6]) C dX1_lookAtRings_101 rfl rfl (by decide) rfl ?_
        refine ow_goto (tgt := 37) C dX1_lookAtRings_104 (by decide) ?_
        exact Sat.mask hh (mk_y (mk_y (mk_n (mk_y (mk_y (mk_n (mk_n mk_0)))))))
      · skip
        refine ow_aload_n C dX1_lookAtRings_95 rfl rfl ?_
        refine ow_iload C dX1_lookAtRings_96 rfl ?_
        refine ow_callV C (cv_X1_countRing _) (Nat.le_of_ble_eq_true rfl) kw_226 dX1_lookAtRings_98 (as := [.int x5]) (st := []) rfl rfl (Nat.le_of_ble_eq_true rfl) hh (fun r4 h3 hq => ?_)
        obtain ⟨rfl, hh⟩ := sr_V_e hq
        show Sat X 101 [.ref p0, .long w1, Value.null, .int x3, .int x4, .int x5, .int x6] [] h3
        refine ow_iinc (v := x4 + 1) (L' := [.ref p0, .long w1, Value.null, .int x3, .int (x4 + 1), .int x5, .int x6]) C dX1_lookAtRings_101 rfl rfl (by decide) rfl ?_
        refine ow_goto (tgt := 37) C dX1_lookAtRings_104 (by decide) ?_
        exact Sat.mask hh (mk_y (mk_y (mk_n (mk_y (mk_y (mk_n (mk_n mk_0)))))))
    · skip
      refine ow_lload_n C dX1_lookAtRings_68 rfl rfl ?_
      refine ow_lconst (v := 1) C dX1_lookAtRings_69 rfl ?_
      refine ow_iload C dX1_lookAtRings_70 rfl ?_
      refine ow_lshl C dX1_lookAtRings_72 ?_
      refine ow_lor C dX1_lookAtRings_73 ?_
      refine ow_lstore_n (L' := [.ref p0, .long (w1 ||| (1 <<< (Int32.toInt64 x6 &&& 63))), Value.null, .int x3, .int x4, .int x5, .int x6]) C dX1_lookAtRings_74 rfl (by decide) rfl ?_
      refine ow_iinc (v := x5 + 1) (L' := [.ref p0, .long (w1 ||| (1 <<< (Int32.toInt64 x6 &&& 63))), Value.null, .int x3, .int x4, .int (x5 + 1), .int x6]) C dX1_lookAtRings_75 rfl rfl (by decide) rfl ?_
      refine ow_aload_n C dX1_lookAtRings_78 rfl rfl ?_
      refine ow_getR (ci := 1) (k := 1) (T := TX1) C rfl igX1 (by decide) kw_198 dX1_lookAtRings_79 hh (fun q5 hh => ?_)
      refine ow_iload C dX1_lookAtRings_82 rfl ?_
      refine ow_iaload C dX1_lookAtRings_84 hh (fun v6 hh => ?_)
      refine ow_istore (L' := [.ref p0, .long (w1 ||| (1 <<< (Int32.toInt64 x6 &&& 63))), Value.null, .int x3, .int x4, .int (x5 + 1), .int v6]) C dX1_lookAtRings_85 (by decide) rfl ?_
      refine ow_goto (tgt := 50) C dX1_lookAtRings_87 (by decide) ?_
      exact Sat.mask hh (mk_y (mk_y (mk_n (mk_y (mk_y (mk_y (mk_y mk_0)))))))
def sm_X1_lookAtRings_37 (K37 : Nat → Int64 → Int32 → Int32 → aw_H → Prop) (K50 : Nat → Int64 → Int32 → Int32 → Int32 → Int32 → aw_H → Prop) (Q : aw_R) (p0 : Nat) (w1 : Int64) (x3 : Int32) (x4 : Int32) (h : aw_H) : Prop :=
  if x3 ≤ x4 then (Q none h) else (K50 p0 w1 x3 x4 0 x4 h)
set_option maxRecDepth 100000 in
set_option maxHeartbeats 4000000 in
theorem bl_X1_lookAtRings_37 {X : aw_X} {Q : aw_R} (C : aw_C X cX1_lookAtRings RX1 7 5) (Z : aw_Z X cX1_lookAtRings none Q) (p0 : Nat) (w1 : Int64) (x3 : Int32) (x4 : Int32) (h : aw_H) (hh : sm_X1_lookAtRings_37 (fun (p0 : Nat) (w1 : Int64) (x3 : Int32) (x4 : Int32) (h : aw_H) => Sat X 37 [.ref p0, .long w1, Value.null, .int x3, .int x4, Value.null, Value.null] [] h) (fun (p0 : Nat) (w1 : Int64) (x3 : Int32) (x4 : Int32) (x5 : Int32) (x6 : Int32) (h : aw_H) => Sat X 50 [.ref p0, .long w1, Value.null, .int x3, .int x4, .int x5, .int x6] [] h) Q p0 w1 x3 x4 h) : Sat X 37 [.ref p0, .long w1, Value.null, .int x3, .int x4, Value.null, Value.null] [] h := by
  unfold sm_X1_lookAtRings_37 at hh
  refine ow_iload C dX1_lookAtRings_37 rfl ?_
  refine ow_iload_n C dX1_lookAtRings_39 rfl rfl ?_
  refine ow_icmp_ge (tgt := 107) C dX1_lookAtRings_40 (by decide) hh (fun hh => ?_) (fun hh => ?_)
  · skip
    exact ow_vret Z dX1_lookAtRings_107 trivial hh
  · skip
    refine ow_iconst (v := 0) C dX1_lookAtRings_43 rfl ?_
    refine ow_istore (L' := [.ref p0, .long w1, Value.null, .int x3, .int x4, .int 0, Value.null]) C dX1_lookAtRings_44 (by decide) rfl ?_
    refine ow_iload C dX1_lookAtRings_46 rfl ?_
    refine ow_istore (L' := [.ref p0, .long w1, Value.null, .int x3, .int x4, .int 0, .int x4]) C dX1_lookAtRings_48 (by decide) rfl ?_
    exact Sat.mask hh (mk_y (mk_y (mk_n (mk_y (mk_y (mk_y (mk_y mk_0)))))))
def sm_X1_lookAtRings_0 (K37 : Nat → Int64 → Int32 → Int32 → aw_H → Prop) (K50 : Nat → Int64 → Int32 → Int32 → Int32 → Int32 → aw_H → Prop) (Q : aw_R) (p0 : Nat) (h : aw_H) : Prop :=
  sv_O h p0 1 (tr_X1_learnRuns [.ref p0] h fun r2 h1 => sr_V r2 <| sp_I h1 p0 1 4 0 fun h3 => sp_I h3 p0 1 5 0 fun h4 => sp_I h4 p0 1 6 0 fun h5 => sp_I h5 p0 1 7 1 fun h6 => sg_R h6 p0 1 0 fun q7 => sv_O h6 q7 0 (tr_X0_states [.ref q7] h6 fun r9 h8 => sr_I r9 fun v10 => K37 p0 0 v10 0 h8))
set_option maxRecDepth 100000 in
set_option maxHeartbeats 4000000 in
theorem bl_X1_lookAtRings_0 {X : aw_X} {Q : aw_R} (C : aw_C X cX1_lookAtRings RX1 7 5) (Z : aw_Z X cX1_lookAtRings none Q) (p0 : Nat) (h : aw_H) (hh : sm_X1_lookAtRings_0 (fun (p0 : Nat) (w1 : Int64) (x3 : Int32) (x4 : Int32) (h : aw_H) => Sat X 37 [.ref p0, .long w1, Value.null, .int x3, .int x4, Value.null, Value.null] [] h) (fun (p0 : Nat) (w1 : Int64) (x3 : Int32) (x4 : Int32) (x5 : Int32) (x6 : Int32) (h : aw_H) => Sat X 50 [.ref p0, .long w1, Value.null, .int x3, .int x4, .int x5, .int x6] [] h) Q p0 h) : Sat X 0 [.ref p0, Value.null, Value.null, Value.null, Value.null, Value.null, Value.null] [] h := by
  unfold sm_X1_lookAtRings_0 at hh
  refine ow_aload_n C dX1_lookAtRings_0 rfl rfl ?_
  refine ow_callV C (cv_X1_learnRuns _) (Nat.le_of_ble_eq_true rfl) kw_227 dX1_lookAtRings_1 (as := []) (st := []) rfl rfl (Nat.le_of_ble_eq_true rfl) hh (fun r2 h1 hq => ?_)
  obtain ⟨rfl, hh⟩ := sr_V_e hq
  show Sat X 4 [.ref p0, Value.null, Value.null, Value.null, Value.null, Value.null, Value.null] [] h1
  refine ow_aload_n C dX1_lookAtRings_4 rfl rfl ?_
  refine ow_iconst (v := 0) C dX1_lookAtRings_5 rfl ?_
  refine ow_putI (ci := 1) (k := 4) (T := TX1) C rfl igX1 tyX1 tyX1_ok nmX1 (by decide) kw_218 rfl (by decide +kernel) dX1_lookAtRings_6 hh (fun h3 hh => ?_)
  refine ow_aload_n C dX1_lookAtRings_9 rfl rfl ?_
  refine ow_iconst (v := 0) C dX1_lookAtRings_10 rfl ?_
  refine ow_putI (ci := 1) (k := 5) (T := TX1) C rfl igX1 tyX1 tyX1_ok nmX1 (by decide) kw_219 rfl (by decide +kernel) dX1_lookAtRings_11 hh (fun h4 hh => ?_)
  refine ow_aload_n C dX1_lookAtRings_14 rfl rfl ?_
  refine ow_iconst (v := 0) C dX1_lookAtRings_15 rfl ?_
  refine ow_putI (ci := 1) (k := 6) (T := TX1) C rfl igX1 tyX1 tyX1_ok nmX1 (by decide) kw_215 rfl (by decide +kernel) dX1_lookAtRings_16 hh (fun h5 hh => ?_)
  refine ow_aload_n C dX1_lookAtRings_19 rfl rfl ?_
  refine ow_iconst (v := 1) C dX1_lookAtRings_20 rfl ?_
  refine ow_putI (ci := 1) (k := 7) (T := TX1) C rfl igX1 tyX1 tyX1_ok nmX1 (by decide) kw_216 rfl (by decide +kernel) dX1_lookAtRings_21 hh (fun h6 hh => ?_)
  refine ow_lconst (v := 0) C dX1_lookAtRings_24 rfl ?_
  refine ow_lstore_n (L' := [.ref p0, .long 0, Value.null, Value.null, Value.null, Value.null, Value.null]) C dX1_lookAtRings_25 rfl (by decide) rfl ?_
  refine ow_aload_n C dX1_lookAtRings_26 rfl rfl ?_
  refine ow_getR (ci := 1) (k := 0) (T := TX1) C rfl igX1 (by decide) kw_199 dX1_lookAtRings_27 hh (fun q7 hh => ?_)
  refine ow_callV C (cv_X0_states _) (Nat.le_of_ble_eq_true rfl) kw_201 dX1_lookAtRings_30 (as := []) (st := []) rfl rfl (Nat.le_of_ble_eq_true rfl) hh (fun r9 h8 hq => ?_)
  obtain ⟨v10, rfl, hh⟩ := sr_I_e hq
  show Sat X 33 [.ref p0, .long 0, Value.null, Value.null, Value.null, Value.null, Value.null] [.int v10] h8
  refine ow_istore_n (L' := [.ref p0, .long 0, Value.null, .int v10, Value.null, Value.null, Value.null]) C dX1_lookAtRings_33 rfl (by decide) rfl ?_
  refine ow_iconst (v := 0) C dX1_lookAtRings_34 rfl ?_
  refine ow_istore (L' := [.ref p0, .long 0, Value.null, .int v10, .int 0, Value.null, Value.null]) C dX1_lookAtRings_35 (by decide) rfl ?_
  exact Sat.mask hh (mk_y (mk_y (mk_n (mk_y (mk_y (mk_n (mk_n mk_0)))))))
def tr_X1_lookAtRings : aw_T := fun as h Q => ∃ (p0 : Nat), as = [.ref p0] ∧ (∀ (K37 : Nat → Int64 → Int32 → Int32 → aw_H → Prop) (K50 : Nat → Int64 → Int32 → Int32 → Int32 → Int32 → aw_H → Prop), (∀ (p0 : Nat) (w1 : Int64) (x3 : Int32) (x4 : Int32) (h : aw_H), sm_X1_lookAtRings_37 K37 K50 Q p0 w1 x3 x4 h → K37 p0 w1 x3 x4 h) → (∀ (p0 : Nat) (w1 : Int64) (x3 : Int32) (x4 : Int32) (x5 : Int32) (x6 : Int32) (h : aw_H), sm_X1_lookAtRings_50 K37 K50 Q p0 w1 x3 x4 x5 x6 h → K50 p0 w1 x3 x4 x5 x6 h) → sm_X1_lookAtRings_0 K37 K50 Q p0 h)
theorem tq_X1_lookAtRings {p0 : Nat} {h : aw_H} {Q : aw_R} : tr_X1_lookAtRings [.ref p0] h Q ↔ (∀ (K37 : Nat → Int64 → Int32 → Int32 → aw_H → Prop) (K50 : Nat → Int64 → Int32 → Int32 → Int32 → Int32 → aw_H → Prop), (∀ (p0 : Nat) (w1 : Int64) (x3 : Int32) (x4 : Int32) (h : aw_H), sm_X1_lookAtRings_37 K37 K50 Q p0 w1 x3 x4 h → K37 p0 w1 x3 x4 h) → (∀ (p0 : Nat) (w1 : Int64) (x3 : Int32) (x4 : Int32) (x5 : Int32) (x6 : Int32) (h : aw_H), sm_X1_lookAtRings_50 K37 K50 Q p0 w1 x3 x4 x5 x6 h → K50 p0 w1 x3 x4 x5 x6 h) → sm_X1_lookAtRings_0 K37 K50 Q p0 h) := by
  constructor
  · rintro ⟨_, as0, hh⟩
    cases as0
    exact hh
  · intro hh
    exact ⟨_, rfl, hh⟩
theorem ct_X1_lookAtRings (E : aw_F) : CT E yX1_lookAtRings cX1_lookAtRings 7 none 5 tr_X1_lookAtRings := by
  refine ct_of (by decide) ?_
  intro X Q as h hE C Z hG
  subst hE
  obtain ⟨p0, rfl, hh⟩ := hG
  refine ⟨[.ref p0, Value.null, Value.null, Value.null, Value.null, Value.null, Value.null], rfl, Nat.le_of_ble_eq_true rfl, ?_⟩
  exact bl_X1_lookAtRings_0 C Z p0 h (hh (fun (p0 : Nat) (w1 : Int64) (x3 : Int32) (x4 : Int32) (h : aw_H) => Sat X 37 [.ref p0, .long w1, Value.null, .int x3, .int x4, Value.null, Value.null] [] h) (fun (p0 : Nat) (w1 : Int64) (x3 : Int32) (x4 : Int32) (x5 : Int32) (x6 : Int32) (h : aw_H) => Sat X 50 [.ref p0, .long w1, Value.null, .int x3, .int x4, .int x5, .int x6] [] h) (fun p0 w1 x3 x4 h hh => bl_X1_lookAtRings_37 C Z p0 w1 x3 x4 h hh) (fun p0 w1 x3 x4 x5 x6 h hh => bl_X1_lookAtRings_50 C Z p0 w1 x3 x4 x5 x6 h hh))
theorem cv_X1_lookAtRings (E : aw_F) : CV E yX1_lookAtRings cX1_lookAtRings 7 none 5 0 1 tr_X1_lookAtRings := ⟨ct_X1_lookAtRings E, by decide, kw_229, kw_230, kw_203, kw_228, by decide +kernel, _, _, rfl⟩
theorem dX1_runChanged_0 : decode cX1_runChanged 0 = .ok (.iload_n 1, 1) := by decide +kernel
theorem dX1_runChanged_1 : decode cX1_runChanged 1 = .ok (.istore 4, 2) := by decide +kernel
theorem dX1_runChanged_3 : decode cX1_runChanged 3 = .ok (.iconst 0, 1) := by decide +kernel
theorem dX1_runChanged_4 : decode cX1_runChanged 4 = .ok (.istore 5, 2) := by decide +kernel
theorem dX1_runChanged_6 : decode cX1_runChanged 6 = .ok (.iload 5, 2) := by decide +kernel
theorem dX1_runChanged_8 : decode cX1_runChanged 8 = .ok (.aload_n 0, 1) := by decide +kernel
theorem dX1_runChanged_9 : decode cX1_runChanged 9 = .ok (.getfield 12, 3) := by decide +kernel
theorem dX1_runChanged_12 : decode cX1_runChanged 12 = .ok (.getfield 72, 3) := by decide +kernel
theorem dX1_runChanged_15 : decode cX1_runChanged 15 = .ok (.if_icmp .ge 50, 3) := by decide +kernel
theorem dX1_runChanged_18 : decode cX1_runChanged 18 = .ok (.iload 5, 2) := by decide +kernel
theorem dX1_runChanged_20 : decode cX1_runChanged 20 = .ok (.iload_n 2, 1) := by decide +kernel
theorem dX1_runChanged_21 : decode cX1_runChanged 21 = .ok (.if_icmp .ne 7, 3) := by decide +kernel
theorem dX1_runChanged_24 : decode cX1_runChanged 24 = .ok (.iload_n 3, 1) := by decide +kernel
theorem dX1_runChanged_25 : decode cX1_runChanged 25 = .ok (.goto 15, 3) := by decide +kernel
theorem dX1_runChanged_28 : decode cX1_runChanged 28 = .ok (.iload 5, 2) := by decide +kernel
theorem dX1_runChanged_30 : decode cX1_runChanged 30 = .ok (.iload_n 3, 1) := by decide +kernel
theorem dX1_runChanged_31 : decode cX1_runChanged 31 = .ok (.if_icmp .ne 7, 3) := by decide +kernel
theorem dX1_runChanged_34 : decode cX1_runChanged 34 = .ok (.iload_n 2, 1) := by decide +kernel
theorem dX1_runChanged_35 : decode cX1_runChanged 35 = .ok (.goto 5, 3) := by decide +kernel
theorem dX1_runChanged_38 : decode cX1_runChanged 38 = .ok (.iload 5, 2) := by decide +kernel
theorem dX1_runChanged_40 : decode cX1_runChanged 40 = .ok (.istore 6, 2) := by decide +kernel
theorem dX1_runChanged_42 : decode cX1_runChanged 42 = .ok (.aload_n 0, 1) := by decide +kernel
theorem dX1_runChanged_43 : decode cX1_runChanged 43 = .ok (.getfield 12, 3) := by decide +kernel
theorem dX1_runChanged_46 : decode cX1_runChanged 46 = .ok (.getfield 75, 3) := by decide +kernel
theorem dX1_runChanged_49 : decode cX1_runChanged 49 = .ok (.iload 6, 2) := by decide +kernel
theorem dX1_runChanged_51 : decode cX1_runChanged 51 = .ok (.iaload, 1) := by decide +kernel
theorem dX1_runChanged_52 : decode cX1_runChanged 52 = .ok (.iload 4, 2) := by decide +kernel
theorem dX1_runChanged_54 : decode cX1_runChanged 54 = .ok (.invokestatic 78, 3) := by decide +kernel
theorem dX1_runChanged_57 : decode cX1_runChanged 57 = .ok (.istore 4, 2) := by decide +kernel
theorem dX1_runChanged_59 : decode cX1_runChanged 59 = .ok (.iinc 5 1, 3) := by decide +kernel
theorem dX1_runChanged_62 : decode cX1_runChanged 62 = .ok (.goto (-56), 3) := by decide +kernel
theorem dX1_runChanged_65 : decode cX1_runChanged 65 = .ok (.iload 4, 2) := by decide +kernel
theorem dX1_runChanged_67 : decode cX1_runChanged 67 = .ok (.ireturn, 1) := by decide +kernel
def sm_X1_runChanged_40 (K6 : Nat → Int32 → Int32 → Int32 → Int32 → aw_H → Prop) (Q : aw_R) (p0 : Nat) (x2 : Int32) (x3 : Int32) (x4 : Int32) (x5 : Int32) (xs0 : Int32) (h : aw_H) : Prop :=
  sg_R h p0 1 0 fun q1 => sg_R h q1 0 2 fun q2 => sa_I h q2 xs0 fun v3 => tr_X2_act [.int v3, .int x4] h fun r5 h4 => sr_I r5 fun v6 => K6 p0 x2 x3 v6 (x5 + 1) h4
set_option maxRecDepth 100000 in
set_option maxHeartbeats 4000000 in
theorem bl_X1_runChanged_40 {X : aw_X} {Q : aw_R} (C : aw_C X cX1_runChanged RX1 7 3) (Z : aw_Z X cX1_runChanged (some .int) Q) (p0 : Nat) (x2 : Int32) (x3 : Int32) (x4 : Int32) (x5 : Int32) (xs0 : Int32) (h : aw_H) (hh : sm_X1_runChanged_40 (fun (p0 : Nat) (x2 : Int32) (x3 : Int32) (x4 : Int32) (x5 : Int32) (h : aw_H) => Sat X 6 [.ref p0, Value.null, .int x2, .int x3, .int x4, .int x5, Value.null] [] h) Q p0 x2 x3 x4 x5 xs0 h) : Sat X 40 [.ref p0, Value.null, .int x2, .int x3, .int x4, .int x5, Value.null] [.int xs0] h := by
  unfold sm_X1_runChanged_40 at hh
  refine ow_istore (L' := [.ref p0, Value.null, .int x2, .int x3, .int x4, .int x5, .int xs0]) C dX1_runChanged_40 (by decide) rfl ?_
  refine ow_aload_n C dX1_runChanged_42 rfl rfl ?_
  refine ow_getR (ci := 1) (k := 0) (T := TX1) C rfl igX1 (by decide) kw_199 dX1_runChanged_43 hh (fun q1 hh => ?_)
  refine ow_getR (ci := 0) (k := 2) (T := TX0) C rfl igX0 (by decide) kw_231 dX1_runChanged_46 hh (fun q2 hh => ?_)
  refine ow_iload C dX1_runChanged_49 rfl ?_
  refine ow_iaload C dX1_runChanged_51 hh (fun v3 hh => ?_)
  refine ow_iload C dX1_runChanged_52 rfl ?_
  refine ow_callS C (cs_X2_act _) (Nat.le_of_ble_eq_true rfl) kw_232 dX1_runChanged_54 (as := [.int v3, .int x4]) (st := []) rfl rfl (Nat.le_of_ble_eq_true rfl) hh (fun r5 h4 hq => ?_)
  obtain ⟨v6, rfl, hh⟩ := sr_I_e hq
  show Sat X 57 [.ref p0, Value.null, .int x2, .int x3, .int x4, .int x5, .int xs0] [.int v6] h4
  refine ow_istore (L' := [.ref p0, Value.null, .int x2, .int x3, .int v6, .int x5, .int xs0]) C dX1_runChanged_57 (by decide) rfl ?_
  refine ow_iinc (v := x5 + 1) (L' := [.ref p0, Value.null, .int x2, .int x3, .int v6, .int (x5 + 1), .int xs0]) C dX1_runChanged_59 rfl rfl (by decide) rfl ?_
  refine ow_goto (tgt := 6) C dX1_runChanged_62 (by decide) ?_
  exact Sat.mask hh (mk_y (mk_n (mk_y (mk_y (mk_y (mk_y (mk_n mk_0)))))))
def sm_X1_runChanged_6 (K6 : Nat → Int32 → Int32 → Int32 → Int32 → aw_H → Prop) (Q : aw_R) (p0 : Nat) (x2 : Int32) (x3 : Int32) (x4 : Int32) (x5 : Int32) (h : aw_H) : Prop :=
  sg_R h p0 1 0 fun q1 => sg_I h q1 0 1 fun v2 => if v2 ≤ x5 then (Q (some (.int x4)) h) else (if ¬ x5 = x2 then (if ¬ x5 = x3 then (sm_X1_runChanged_40 K6 Q p0 x2 x3 x4 x5 x5 h) else (sm_X1_runChanged_40 K6 Q p0 x2 x3 x4 x5 x2 h)) else (sm_X1_runChanged_40 K6 Q p0 x2 x3 x4 x5 x3 h))
set_option maxRecDepth 100000 in
set_option maxHeartbeats 4000000 in
theorem bl_X1_runChanged_6 {X : aw_X} {Q : aw_R} (C : aw_C X cX1_runChanged RX1 7 3) (Z : aw_Z X cX1_runChanged (some .int) Q) (p0 : Nat) (x2 : Int32) (x3 : Int32) (x4 : Int32) (x5 : Int32) (h : aw_H) (hh : sm_X1_runChanged_6 (fun (p0 : Nat) (x2 : Int32) (x3 : Int32) (x4 : Int32) (x5 : Int32) (h : aw_H) => Sat X 6 [.ref p0, Value.null, .int x2, .int x3, .int x4, .int x5, Value.null] [] h) Q p0 x2 x3 x4 x5 h) : Sat X 6 [.ref p0, Value.null, .int x2, .int x3, .int x4, .int x5, Value.null] [] h := by
  unfold sm_X1_runChanged_6 at hh
  refine ow_iload C dX1_runChanged_6 rfl ?_
  refine ow_aload_n C dX1_runChanged_8 rfl rfl ?_
  refine ow_getR (ci := 1) (k := 0) (T := TX1) C rfl igX1 (by decide) kw_199 dX1_runChanged_9 hh (fun q1 hh => ?_)
  refine ow_getI (ci := 0) (k := 1) (T := TX0) C rfl igX0 (by decide) kw_233 dX1_runChanged_12 hh (fun v2 hh => ?_)
  refine ow_icmp_ge (tgt := 65) C dX1_runChanged_15 (by decide) hh (fun hh => ?_) (fun hh => ?_)
  · skip
    refine ow_iload C dX1_runChanged_65 rfl ?_
    exact ow_iret Z dX1_runChanged_67 trivial hh
  · skip
    refine ow_iload C dX1_runChanged_18 rfl ?_
    refine ow_iload_n C dX1_runChanged_20 rfl rfl ?_
    refine ow_icmp_ne (tgt := 28) C dX1_runChanged_21 (by decide) hh (fun hh => ?_) (fun hh => ?_)
    · skip
      refine ow_iload C dX1_runChanged_28 rfl ?_
      refine ow_iload_n C dX1_runChanged_30 rfl rfl ?_
      refine ow_icmp_ne (tgt := 38) C dX1_runChanged_31 (by decide) hh (fun hh => ?_) (fun hh => ?_)
      · skip
        refine ow_iload C dX1_runChanged_38 rfl ?_
        exact Sat.mask (bl_X1_runChanged_40 C Z p0 x2 x3 x4 x5 x5 h hh) (mk_y (mk_n (mk_y (mk_y (mk_y (mk_y (mk_n mk_0)))))))
      · skip
        refine ow_iload_n C dX1_runChanged_34 rfl rfl ?_
        refine ow_goto (tgt := 40) C dX1_runChanged_35 (by decide) ?_
        exact Sat.mask (bl_X1_runChanged_40 C Z p0 x2 x3 x4 x5 x2 h hh) (mk_y (mk_n (mk_y (mk_y (mk_y (mk_y (mk_n mk_0)))))))
    · skip
      refine ow_iload_n C dX1_runChanged_24 rfl rfl ?_
      refine ow_goto (tgt := 40) C dX1_runChanged_25 (by decide) ?_
      exact Sat.mask (bl_X1_runChanged_40 C Z p0 x2 x3 x4 x5 x3 h hh) (mk_y (mk_n (mk_y (mk_y (mk_y (mk_y (mk_n mk_0)))))))
def sm_X1_runChanged_0 (K6 : Nat → Int32 → Int32 → Int32 → Int32 → aw_H → Prop) (Q : aw_R) (p0 : Nat) (x1 : Int32) (x2 : Int32) (x3 : Int32) (h : aw_H) : Prop :=
  K6 p0 x2 x3 x1 0 h
set_option maxRecDepth 100000 in
set_option maxHeartbeats 4000000 in
theorem bl_X1_runChanged_0 {X : aw_X} {Q : aw_R} (C : aw_C X cX1_runChanged RX1 7 3) (Z : aw_Z X cX1_runChanged (some .int) Q) (p0 : Nat) (x1 : Int32) (x2 : Int32) (x3 : Int32) (h : aw_H) (hh : sm_X1_runChanged_0 (fun (p0 : Nat) (x2 : Int32) (x3 : Int32) (x4 : Int32) (x5 : Int32) (h : aw_H) => Sat X 6 [.ref p0, Value.null, .int x2, .int x3, .int x4, .int x5, Value.null] [] h) Q p0 x1 x2 x3 h) : Sat X 0 [.ref p0, .int x1, .int x2, .int x3, Value.null, Value.null, Value.null] [] h := by
  unfold sm_X1_runChanged_0 at hh
  refine ow_iload_n C dX1_runChanged_0 rfl rfl ?_
  refine ow_istore (L' := [.ref p0, .int x1, .int x2, .int x3, .int x1, Value.null, Value.null]) C dX1_runChanged_1 (by decide) rfl ?_
  refine ow_iconst (v := 0) C dX1_runChanged_3 rfl ?_
  refine ow_istore (L' := [.ref p0, .int x1, .int x2, .int x3, .int x1, .int 0, Value.null]) C dX1_runChanged_4 (by decide) rfl ?_
  exact Sat.mask hh (mk_y (mk_n (mk_y (mk_y (mk_y (mk_y (mk_n mk_0)))))))
def tr_X1_runChanged : aw_T := fun as h Q => ∃ (p0 : Nat) (x1 : Int32) (x2 : Int32) (x3 : Int32), as = [.ref p0, .int x1, .int x2, .int x3] ∧ (∀ (K6 : Nat → Int32 → Int32 → Int32 → Int32 → aw_H → Prop), (∀ (p0 : Nat) (x2 : Int32) (x3 : Int32) (x4 : Int32) (x5 : Int32) (h : aw_H), sm_X1_runChanged_6 K6 Q p0 x2 x3 x4 x5 h → K6 p0 x2 x3 x4 x5 h) → sm_X1_runChanged_0 K6 Q p0 x1 x2 x3 h)
theorem tq_X1_runChanged {p0 : Nat} {x1 : Int32} {x2 : Int32} {x3 : Int32} {h : aw_H} {Q : aw_R} : tr_X1_runChanged [.ref p0, .int x1, .int x2, .int x3] h Q ↔ (∀ (K6 : Nat → Int32 → Int32 → Int32 → Int32 → aw_H → Prop), (∀ (p0 : Nat) (x2 : Int32) (x3 : Int32) (x4 : Int32) (x5 : Int32) (h : aw_H), sm_X1_runChanged_6 K6 Q p0 x2 x3 x4 x5 h → K6 p0 x2 x3 x4 x5 h) → sm_X1_runChanged_0 K6 Q p0 x1 x2 x3 h) := by
  constructor
  · rintro ⟨_, _, _, _, as0, hh⟩
    cases as0
    exact hh
  · intro hh
    exact ⟨_, _, _, _, rfl, hh⟩
theorem ct_X1_runChanged (E : aw_F) : CT E yX1_runChanged cX1_runChanged 7 (some .int) 3 tr_X1_runChanged := by
  refine ct_of (by decide) ?_
  intro X Q as h hE C Z hG
  subst hE
  obtain ⟨p0, x1, x2, x3, rfl, hh⟩ := hG
  refine ⟨[.ref p0, .int x1, .int x2, .int x3, Value.null, Value.null, Value.null], rfl, Nat.le_of_ble_eq_true rfl, ?_⟩
  exact bl_X1_runChanged_0 C Z p0 x1 x2 x3 h (hh (fun (p0 : Nat) (x2 : Int32) (x3 : Int32) (x4 : Int32) (x5 : Int32) (h : aw_H) => Sat X 6 [.ref p0, Value.null, .int x2, .int x3, .int x4, .int x5, Value.null] [] h) (fun p0 x2 x3 x4 x5 h hh => bl_X1_runChanged_6 C Z p0 x2 x3 x4 x5 h hh))
theorem cv_X1_runChanged (E : aw_F) : CV E yX1_runChanged cX1_runChanged 7 (some .int) 3 3 1 tr_X1_runChanged := ⟨ct_X1_runChanged E, by decide, kw_235, kw_236, kw_203, kw_234, by decide +kernel, _, _, rfl⟩
theorem dX1_mayChangePlaces_0 : decode cX1_mayChangePlaces 0 = .ok (.aload_n 0, 1) := by decide +kernel
theorem dX1_mayChangePlaces_1 : decode cX1_mayChangePlaces 1 = .ok (.getfield 12, 3) := by decide +kernel
theorem dX1_mayChangePlaces_4 : decode cX1_mayChangePlaces 4 = .ok (.invokevirtual 28, 3) := by decide +kernel
theorem dX1_mayChangePlaces_7 : decode cX1_mayChangePlaces 7 = .ok (.istore_n 3, 1) := by decide +kernel
theorem dX1_mayChangePlaces_8 : decode cX1_mayChangePlaces 8 = .ok (.iconst 0, 1) := by decide +kernel
theorem dX1_mayChangePlaces_9 : decode cX1_mayChangePlaces 9 = .ok (.istore 4, 2) := by decide +kernel
theorem dX1_mayChangePlaces_11 : decode cX1_mayChangePlaces 11 = .ok (.iload 4, 2) := by decide +kernel
theorem dX1_mayChangePlaces_13 : decode cX1_mayChangePlaces 13 = .ok (.iload_n 3, 1) := by decide +kernel
theorem dX1_mayChangePlaces_14 : decode cX1_mayChangePlaces 14 = .ok (.if_icmp .ge 31, 3) := by decide +kernel
theorem dX1_mayChangePlaces_17 : decode cX1_mayChangePlaces 17 = .ok (.aload_n 0, 1) := by decide +kernel
theorem dX1_mayChangePlaces_18 : decode cX1_mayChangePlaces 18 = .ok (.getfield 12, 3) := by decide +kernel
theorem dX1_mayChangePlaces_21 : decode cX1_mayChangePlaces 21 = .ok (.iload 4, 2) := by decide +kernel
theorem dX1_mayChangePlaces_23 : decode cX1_mayChangePlaces 23 = .ok (.invokevirtual 32, 3) := by decide +kernel
theorem dX1_mayChangePlaces_26 : decode cX1_mayChangePlaces 26 = .ok (.aload_n 0, 1) := by decide +kernel
theorem dX1_mayChangePlaces_27 : decode cX1_mayChangePlaces 27 = .ok (.iload 4, 2) := by decide +kernel
theorem dX1_mayChangePlaces_29 : decode cX1_mayChangePlaces 29 = .ok (.iload_n 1, 1) := by decide +kernel
theorem dX1_mayChangePlaces_30 : decode cX1_mayChangePlaces 30 = .ok (.iload_n 2, 1) := by decide +kernel
theorem dX1_mayChangePlaces_31 : decode cX1_mayChangePlaces 31 = .ok (.invokevirtual 68, 3) := by decide +kernel
theorem dX1_mayChangePlaces_34 : decode cX1_mayChangePlaces 34 = .ok (.if_icmp .eq 5, 3) := by decide +kernel
theorem dX1_mayChangePlaces_37 : decode cX1_mayChangePlaces 37 = .ok (.iconst 0, 1) := by decide +kernel
theorem dX1_mayChangePlaces_38 : decode cX1_mayChangePlaces 38 = .ok (.ireturn, 1) := by decide +kernel
theorem dX1_mayChangePlaces_39 : decode cX1_mayChangePlaces 39 = .ok (.iinc 4 1, 3) := by decide +kernel
theorem dX1_mayChangePlaces_42 : decode cX1_mayChangePlaces 42 = .ok (.goto (-31), 3) := by decide +kernel
theorem dX1_mayChangePlaces_45 : decode cX1_mayChangePlaces 45 = .ok (.iconst 1, 1) := by decide +kernel
theorem dX1_mayChangePlaces_46 : decode cX1_mayChangePlaces 46 = .ok (.ireturn, 1) := by decide +kernel
def sm_X1_mayChangePlaces_11 (K11 : Nat → Int32 → Int32 → Int32 → Int32 → aw_H → Prop) (Q : aw_R) (p0 : Nat) (x1 : Int32) (x2 : Int32) (x3 : Int32) (x4 : Int32) (h : aw_H) : Prop :=
  if x3 ≤ x4 then (Q (some (.int 1)) h) else (sg_R h p0 1 0 fun q1 => sv_O h q1 0 (tr_X0_run [.ref q1, .int x4] h fun r3 h2 => sr_I r3 fun v4 => sv_O h2 p0 1 (tr_X1_runChanged [.ref p0, .int x4, .int x1, .int x2] h2 fun r6 h5 => sr_I r6 fun v7 => if v4 = v7 then (K11 p0 x1 x2 x3 (x4 + 1) h5) else (Q (some (.int 0)) h5))))
set_option maxRecDepth 100000 in
set_option maxHeartbeats 4000000 in
theorem bl_X1_mayChangePlaces_11 {X : aw_X} {Q : aw_R} (C : aw_C X cX1_mayChangePlaces RX1 5 4) (Z : aw_Z X cX1_mayChangePlaces (some .boolean) Q) (p0 : Nat) (x1 : Int32) (x2 : Int32) (x3 : Int32) (x4 : Int32) (h : aw_H) (hh : sm_X1_mayChangePlaces_11 (fun (p0 : Nat) (x1 : Int32) (x2 : Int32) (x3 : Int32) (x4 : Int32) (h : aw_H) => Sat X 11 [.ref p0, .int x1, .int x2, .int x3, .int x4] [] h) Q p0 x1 x2 x3 x4 h) : Sat X 11 [.ref p0, .int x1, .int x2, .int x3, .int x4] [] h := by
  unfold sm_X1_mayChangePlaces_11 at hh
  refine ow_iload C dX1_mayChangePlaces_11 rfl ?_
  refine ow_iload_n C dX1_mayChangePlaces_13 rfl rfl ?_
  refine ow_icmp_ge (tgt := 45) C dX1_mayChangePlaces_14 (by decide) hh (fun hh => ?_) (fun hh => ?_)
  · skip
    refine ow_iconst (v := 1) C dX1_mayChangePlaces_45 rfl ?_
    exact ow_iret Z dX1_mayChangePlaces_46 (Or.inr rfl) hh
  · skip
    refine ow_aload_n C dX1_mayChangePlaces_17 rfl rfl ?_
    refine ow_getR (ci := 1) (k := 0) (T := TX1) C rfl igX1 (by decide) kw_199 dX1_mayChangePlaces_18 hh (fun q1 hh => ?_)
    refine ow_iload C dX1_mayChangePlaces_21 rfl ?_
    refine ow_callV C (cv_X0_run _) (Nat.le_of_ble_eq_true rfl) kw_200 dX1_mayChangePlaces_23 (as := [.int x4]) (st := []) rfl rfl (Nat.le_of_ble_eq_true rfl) hh (fun r3 h2 hq => ?_)
    obtain ⟨v4, rfl, hh⟩ := sr_I_e hq
    show Sat X 26 [.ref p0, .int x1, .int x2, .int x3, .int x4] [.int v4] h2
    refine ow_aload_n C dX1_mayChangePlaces_26 rfl rfl ?_
    refine ow_iload C dX1_mayChangePlaces_27 rfl ?_
    refine ow_iload_n C dX1_mayChangePlaces_29 rfl rfl ?_
    refine ow_iload_n C dX1_mayChangePlaces_30 rfl rfl ?_
    refine ow_callV C (cv_X1_runChanged _) (Nat.le_of_ble_eq_true rfl) kw_237 dX1_mayChangePlaces_31 (as := [.int x4, .int x1, .int x2]) (st := [.int v4]) rfl rfl (Nat.le_of_ble_eq_true rfl) hh (fun r6 h5 hq => ?_)
    obtain ⟨v7, rfl, hh⟩ := sr_I_e hq
    show Sat X 34 [.ref p0, .int x1, .int x2, .int x3, .int x4] [.int v7, .int v4] h5
    refine ow_icmp_eq (tgt := 39) C dX1_mayChangePlaces_34 (by decide) hh (fun hh => ?_) (fun hh => ?_)
    · skip
      refine ow_iinc (v := x4 + 1) (L' := [.ref p0, .int x1, .int x2, .int x3, .int (x4 + 1)]) C dX1_mayChangePlaces_39 rfl rfl (by decide) rfl ?_
      refine ow_goto (tgt := 11) C dX1_mayChangePlaces_42 (by decide) ?_
      exact Sat.mask hh (mk_y (mk_y (mk_y (mk_y (mk_y mk_0)))))
    · skip
      refine ow_iconst (v := 0) C dX1_mayChangePlaces_37 rfl ?_
      exact ow_iret Z dX1_mayChangePlaces_38 (Or.inl rfl) hh
def sm_X1_mayChangePlaces_0 (K11 : Nat → Int32 → Int32 → Int32 → Int32 → aw_H → Prop) (Q : aw_R) (p0 : Nat) (x1 : Int32) (x2 : Int32) (h : aw_H) : Prop :=
  sg_R h p0 1 0 fun q1 => sv_O h q1 0 (tr_X0_states [.ref q1] h fun r3 h2 => sr_I r3 fun v4 => K11 p0 x1 x2 v4 0 h2)
set_option maxRecDepth 100000 in
set_option maxHeartbeats 4000000 in
theorem bl_X1_mayChangePlaces_0 {X : aw_X} {Q : aw_R} (C : aw_C X cX1_mayChangePlaces RX1 5 4) (Z : aw_Z X cX1_mayChangePlaces (some .boolean) Q) (p0 : Nat) (x1 : Int32) (x2 : Int32) (h : aw_H) (hh : sm_X1_mayChangePlaces_0 (fun (p0 : Nat) (x1 : Int32) (x2 : Int32) (x3 : Int32) (x4 : Int32) (h : aw_H) => Sat X 11 [.ref p0, .int x1, .int x2, .int x3, .int x4] [] h) Q p0 x1 x2 h) : Sat X 0 [.ref p0, .int x1, .int x2, Value.null, Value.null] [] h := by
  unfold sm_X1_mayChangePlaces_0 at hh
  refine ow_aload_n C dX1_mayChangePlaces_0 rfl rfl ?_
  refine ow_getR (ci := 1) (k := 0) (T := TX1) C rfl igX1 (by decide) kw_199 dX1_mayChangePlaces_1 hh (fun q1 hh => ?_)
  refine ow_callV C (cv_X0_states _) (Nat.le_of_ble_eq_true rfl) kw_201 dX1_mayChangePlaces_4 (as := []) (st := []) rfl rfl (Nat.le_of_ble_eq_true rfl) hh (fun r3 h2 hq => ?_)
  obtain ⟨v4, rfl, hh⟩ := sr_I_e hq
  show Sat X 7 [.ref p0, .int x1, .int x2, Value.null, Value.null] [.int v4] h2
  refine ow_istore_n (L' := [.ref p0, .int x1, .int x2, .int v4, Value.null]) C dX1_mayChangePlaces_7 rfl (by decide) rfl ?_
  refine ow_iconst (v := 0) C dX1_mayChangePlaces_8 rfl ?_
  refine ow_istore (L' := [.ref p0, .int x1, .int x2, .int v4, .int 0]) C dX1_mayChangePlaces_9 (by decide) rfl ?_
  exact Sat.mask hh (mk_y (mk_y (mk_y (mk_y (mk_y mk_0)))))
def tr_X1_mayChangePlaces : aw_T := fun as h Q => ∃ (p0 : Nat) (x1 : Int32) (x2 : Int32), as = [.ref p0, .int x1, .int x2] ∧ (∀ (K11 : Nat → Int32 → Int32 → Int32 → Int32 → aw_H → Prop), (∀ (p0 : Nat) (x1 : Int32) (x2 : Int32) (x3 : Int32) (x4 : Int32) (h : aw_H), sm_X1_mayChangePlaces_11 K11 Q p0 x1 x2 x3 x4 h → K11 p0 x1 x2 x3 x4 h) → sm_X1_mayChangePlaces_0 K11 Q p0 x1 x2 h)
theorem tq_X1_mayChangePlaces {p0 : Nat} {x1 : Int32} {x2 : Int32} {h : aw_H} {Q : aw_R} : tr_X1_mayChangePlaces [.ref p0, .int x1, .int x2] h Q ↔ (∀ (K11 : Nat → Int32 → Int32 → Int32 → Int32 → aw_H → Prop), (∀ (p0 : Nat) (x1 : Int32) (x2 : Int32) (x3 : Int32) (x4 : Int32) (h : aw_H), sm_X1_mayChangePlaces_11 K11 Q p0 x1 x2 x3 x4 h → K11 p0 x1 x2 x3 x4 h) → sm_X1_mayChangePlaces_0 K11 Q p0 x1 x2 h) := by
  constructor
  · rintro ⟨_, _, _, as0, hh⟩
    cases as0
    exact hh
  · intro hh
    exact ⟨_, _, _, rfl, hh⟩
theorem ct_X1_mayChangePlaces (E : aw_F) : CT E yX1_mayChangePlaces cX1_mayChangePlaces 5 (some .boolean) 4 tr_X1_mayChangePlaces := by
  refine ct_of (by decide) ?_
  intro X Q as h hE C Z hG
  subst hE
  obtain ⟨p0, x1, x2, rfl, hh⟩ := hG
  refine ⟨[.ref p0, .int x1, .int x2, Value.null, Value.null], rfl, Nat.le_of_ble_eq_true rfl, ?_⟩
  exact bl_X1_mayChangePlaces_0 C Z p0 x1 x2 h (hh (fun (p0 : Nat) (x1 : Int32) (x2 : Int32) (x3 : Int32) (x4 : Int32) (h : aw_H) => Sat X 11 [.ref p0, .int x1, .int x2, .int x3, .int x4] [] h) (fun p0 x1 x2 x3 x4 h hh => bl_X1_mayChangePlaces_11 C Z p0 x1 x2 x3 x4 h hh))
theorem cv_X1_mayChangePlaces (E : aw_F) : CV E yX1_mayChangePlaces cX1_mayChangePlaces 5 (some .boolean) 4 2 1 tr_X1_mayChangePlaces := ⟨ct_X1_mayChangePlaces E, by decide, kw_239, kw_240, kw_203, kw_238, by decide +kernel, _, _, rfl⟩
theorem dX1_mayBeLeftOut_0 : decode cX1_mayBeLeftOut 0 = .ok (.iload_n 1, 1) := by decide +kernel
theorem dX1_mayBeLeftOut_1 : decode cX1_mayBeLeftOut 1 = .ok (.invokestatic 87, 3) := by decide +kernel
theorem dX1_mayBeLeftOut_4 : decode cX1_mayBeLeftOut 4 = .ok (.ifCond .ne 10, 3) := by decide +kernel
theorem dX1_mayBeLeftOut_7 : decode cX1_mayBeLeftOut 7 = .ok (.iload_n 2, 1) := by decide +kernel
theorem dX1_mayBeLeftOut_8 : decode cX1_mayBeLeftOut 8 = .ok (.invokestatic 87, 3) := by decide +kernel
theorem dX1_mayBeLeftOut_11 : decode cX1_mayBeLeftOut 11 = .ok (.ifCond .eq 5, 3) := by decide +kernel
theorem dX1_mayBeLeftOut_14 : decode cX1_mayBeLeftOut 14 = .ok (.iconst 0, 1) := by decide +kernel
theorem dX1_mayBeLeftOut_15 : decode cX1_mayBeLeftOut 15 = .ok (.ireturn, 1) := by decide +kernel
theorem dX1_mayBeLeftOut_16 : decode cX1_mayBeLeftOut 16 = .ok (.aload_n 0, 1) := by decide +kernel
theorem dX1_mayBeLeftOut_17 : decode cX1_mayBeLeftOut 17 = .ok (.getfield 12, 3) := by decide +kernel
theorem dX1_mayBeLeftOut_20 : decode cX1_mayBeLeftOut 20 = .ok (.invokevirtual 28, 3) := by decide +kernel
theorem dX1_mayBeLeftOut_23 : decode cX1_mayBeLeftOut 23 = .ok (.istore_n 3, 1) := by decide +kernel
theorem dX1_mayBeLeftOut_24 : decode cX1_mayBeLeftOut 24 = .ok (.iconst 0, 1) := by decide +kernel
theorem dX1_mayBeLeftOut_25 : decode cX1_mayBeLeftOut 25 = .ok (.istore 4, 2) := by decide +kernel
theorem dX1_mayBeLeftOut_27 : decode cX1_mayBeLeftOut 27 = .ok (.iload 4, 2) := by decide +kernel
theorem dX1_mayBeLeftOut_29 : decode cX1_mayBeLeftOut 29 = .ok (.iload_n 3, 1) := by decide +kernel
theorem dX1_mayBeLeftOut_30 : decode cX1_mayBeLeftOut 30 = .ok (.if_icmp .ge 36, 3) := by decide +kernel
theorem dX1_mayBeLeftOut_33 : decode cX1_mayBeLeftOut 33 = .ok (.iload_n 2, 1) := by decide +kernel
theorem dX1_mayBeLeftOut_34 : decode cX1_mayBeLeftOut 34 = .ok (.aload_n 0, 1) := by decide +kernel
theorem dX1_mayBeLeftOut_35 : decode cX1_mayBeLeftOut 35 = .ok (.getfield 22, 3) := by decide +kernel
theorem dX1_mayBeLeftOut_38 : decode cX1_mayBeLeftOut 38 = .ok (.iload_n 1, 1) := by decide +kernel
theorem dX1_mayBeLeftOut_39 : decode cX1_mayBeLeftOut 39 = .ok (.iload 4, 2) := by decide +kernel
theorem dX1_mayBeLeftOut_41 : decode cX1_mayBeLeftOut 41 = .ok (.invokestatic 78, 3) := by decide +kernel
theorem dX1_mayBeLeftOut_44 : decode cX1_mayBeLeftOut 44 = .ok (.iaload, 1) := by decide +kernel
theorem dX1_mayBeLeftOut_45 : decode cX1_mayBeLeftOut 45 = .ok (.invokestatic 78, 3) := by decide +kernel
theorem dX1_mayBeLeftOut_48 : decode cX1_mayBeLeftOut 48 = .ok (.aload_n 0, 1) := by decide +kernel
theorem dX1_mayBeLeftOut_49 : decode cX1_mayBeLeftOut 49 = .ok (.getfield 22, 3) := by decide +kernel
theorem dX1_mayBeLeftOut_52 : decode cX1_mayBeLeftOut 52 = .ok (.iload 4, 2) := by decide +kernel
theorem dX1_mayBeLeftOut_54 : decode cX1_mayBeLeftOut 54 = .ok (.iaload, 1) := by decide +kernel
theorem dX1_mayBeLeftOut_55 : decode cX1_mayBeLeftOut 55 = .ok (.if_icmp .eq 5, 3) := by decide +kernel
theorem dX1_mayBeLeftOut_58 : decode cX1_mayBeLeftOut 58 = .ok (.iconst 0, 1) := by decide +kernel
theorem dX1_mayBeLeftOut_59 : decode cX1_mayBeLeftOut 59 = .ok (.ireturn, 1) := by decide +kernel
theorem dX1_mayBeLeftOut_60 : decode cX1_mayBeLeftOut 60 = .ok (.iinc 4 1, 3) := by decide +kernel
theorem dX1_mayBeLeftOut_63 : decode cX1_mayBeLeftOut 63 = .ok (.goto (-36), 3) := by decide +kernel
theorem dX1_mayBeLeftOut_66 : decode cX1_mayBeLeftOut 66 = .ok (.iconst 1, 1) := by decide +kernel
theorem dX1_mayBeLeftOut_67 : decode cX1_mayBeLeftOut 67 = .ok (.ireturn, 1) := by decide +kernel
def sm_X1_mayBeLeftOut_27 (K27 : Nat → Int32 → Int32 → Int32 → Int32 → aw_H → Prop) (Q : aw_R) (p0 : Nat) (x1 : Int32) (x2 : Int32) (x3 : Int32) (x4 : Int32) (h : aw_H) : Prop :=
  if x3 ≤ x4 then (Q (some (.int 1)) h) else (sg_R h p0 1 2 fun q1 => tr_X2_act [.int x1, .int x4] h fun r3 h2 => sr_I r3 fun v4 => sa_I h2 q1 v4 fun v5 => tr_X2_act [.int x2, .int v5] h2 fun r7 h6 => sr_I r7 fun v8 => sg_R h6 p0 1 2 fun q9 => sa_I h6 q9 x4 fun v10 => if v8 = v10 then (K27 p0 x1 x2 x3 (x4 + 1) h6) else (Q (some (.int 0)) h6))
set_option maxRecDepth 100000 in
set_option maxHeartbeats 4000000 in
theorem bl_X1_mayBeLeftOut_27 {X : aw_X} {Q : aw_R} (C : aw_C X cX1_mayBeLeftOut RX1 5 3) (Z : aw_Z X cX1_mayBeLeftOut (some .boolean) Q) (p0 : Nat) (x1 : Int32) (x2 : Int32) (x3 : Int32) (x4 : Int32) (h : aw_H) (hh : sm_X1_mayBeLeftOut_27 (fun (p0 : Nat) (x1 : Int32) (x2 : Int32) (x3 : Int32) (x4 : Int32) (h : aw_H) => Sat X 27 [.ref p0, .int x1, .int x2, .int x3, .int x4] [] h) Q p0 x1 x2 x3 x4 h) : Sat X 27 [.ref p0, .int x1, .int x2, .int x3, .int x4] [] h := by
  unfold sm_X1_mayBeLeftOut_27 at hh
  refine ow_iload C dX1_mayBeLeftOut_27 rfl ?_
  refine ow_iload_n C dX1_mayBeLeftOut_29 rfl rfl ?_
  refine ow_icmp_ge (tgt := 66) C dX1_mayBeLeftOut_30 (by decide) hh (fun hh => ?_) (fun hh => ?_)
  · skip
    refine ow_iconst (v := 1) C dX1_mayBeLeftOut_66 rfl ?_
    exact ow_iret Z dX1_mayBeLeftOut_67 (Or.inr rfl) hh
  · skip
    refine ow_iload_n C dX1_mayBeLeftOut_33 rfl rfl ?_
    refine ow_aload_n C dX1_mayBeLeftOut_34 rfl rfl ?_
    refine ow_getR (ci := 1) (k := 2) (T := TX1) C rfl igX1 (by decide) kw_241 dX1_mayBeLeftOut_35 hh (fun q1 hh => ?_)
    refine ow_iload_n C dX1_mayBeLeftOut_38 rfl rfl ?_
    refine ow_iload C dX1_mayBeLeftOut_39 rfl ?_
    refine ow_callS C (cs_X2_act _) (Nat.le_of_ble_eq_true rfl) kw_232 dX1_mayBeLeftOut_41 (as := [.int x1, .int x4]) (st := [.ref q1, .int x2]) rfl rfl (Nat.le_of_ble_eq_true rfl) hh (fun r3 h2 hq => ?_)
    obtain ⟨v4, rfl, hh⟩ := sr_I_e hq
    show Sat X 44 [.ref p0, .int x1, .int x2, .int x3, .int x4] [.int v4, .ref q1, .int x2] h2
    refine ow_iaload C dX1_mayBeLeftOut_44 hh (fun v5 hh => ?_)
    refine ow_callS C (cs_X2_act _) (Nat.le_of_ble_eq_true rfl) kw_232 dX1_mayBeLeftOut_45 (as := [.int x2, .int v5]) (st := []) rfl rfl (Nat.le_of_ble_eq_true rfl) hh (fun r7 h6 hq => ?_)
    obtain ⟨v8, rfl, hh⟩ := sr_I_e hq
    show Sat X 48 [.ref p0, .int x1, .int x2, .int x3, .int x4] [.int v8] h6
    refine ow_aload_n C dX1_mayBeLeftOut_48 rfl rfl ?_
    refine ow_getR (ci := 1) (k := 2) (T := TX1) C rfl igX1 (by decide) kw_241 dX1_mayBeLeftOut_49 hh (fun q9 hh => ?_)
    refine ow_iload C dX1_mayBeLeftOut_52 rfl ?_
    refine ow_iaload C dX1_mayBeLeftOut_54 hh (fun v10 hh => ?_)
    refine ow_icmp_eq (tgt := 60) C dX1_mayBeLeftOut_55 (by decide) hh (fun hh => ?_) (fun hh => ?_)
    · skip
      refine ow_iinc (v := x4 + 1) (L' := [.ref p0, .int x1, .int x2, .int x3, .int (x4 + 1)]) C dX1_mayBeLeftOut_60 rfl rfl (by decide) rfl ?_
      refine ow_goto (tgt := 27) C dX1_mayBeLeftOut_63 (by decide) ?_
      exact Sat.mask hh (mk_y (mk_y (mk_y (mk_y (mk_y mk_0)))))
    · skip
      refine ow_iconst (v := 0) C dX1_mayBeLeftOut_58 rfl ?_
      exact ow_iret Z dX1_mayBeLeftOut_59 (Or.inl rfl) hh
def sm_X1_mayBeLeftOut_0 (K27 : Nat → Int32 → Int32 → Int32 → Int32 → aw_H → Prop) (Q : aw_R) (p0 : Nat) (x1 : Int32) (x2 : Int32) (h : aw_H) : Prop :=
  tr_X2_isDead [.int x1] h fun r2 h1 => sr_I r2 fun v3 => if ¬ v3 = 0 then (Q (some (.int 0)) h1) else (tr_X2_isDead [.int x2] h1 fun r5 h4 => sr_I r5 fun v6 => if v6 = 0 then (sg_R h4 p0 1 0 fun q7 => sv_O h4 q7 0 (tr_X0_states [.ref q7] h4 fun r9 h8 => sr_I r9 fun v10 => K27 p0 x1 x2 v10 0 h8)) else (Q (some (.int 0)) h4))
set_option maxRecDepth 100000 in
set_option maxHeartbeats 4000000 in
theorem bl_X1_mayBeLeftOut_0 {X : aw_X} {Q : aw_R} (C : aw_C X cX1_mayBeLeftOut RX1 5 3) (Z : aw_Z X cX1_mayBeLeftOut (some .boolean) Q) (p0 : Nat) (x1 : Int32) (x2 : Int32) (h : aw_H) (hh : sm_X1_mayBeLeftOut_0 (fun (p0 : Nat) (x1 : Int32) (x2 : Int32) (x3 : Int32) (x4 : Int32) (h : aw_H) => Sat X 27 [.ref p0, .int x1, .int x2, .int x3, .int x4] [] h) Q p0 x1 x2 h) : Sat X 0 [.ref p0, .int x1, .int x2, Value.null, Value.null] [] h := by
  unfold sm_X1_mayBeLeftOut_0 at hh
  refine ow_iload_n C dX1_mayBeLeftOut_0 rfl rfl ?_
  refine ow_callS C (cs_X2_isDead _) (Nat.le_of_ble_eq_true rfl) kw_242 dX1_mayBeLeftOut_1 (as := [.int x1]) (st := []) rfl rfl (Nat.le_of_ble_eq_true rfl) hh (fun r2 h1 hq => ?_)
  obtain ⟨v3, rfl, hh⟩ := sr_I_e hq
  show Sat X 4 [.ref p0, .int x1, .int x2, Value.null, Value.null] [.int v3] h1
  refine ow_if_ne (tgt := 14) C dX1_mayBeLeftOut_4 (by decide) hh (fun hh => ?_) (fun hh => ?_)
  · skip
    refine ow_iconst (v := 0) C dX1_mayBeLeftOut_14 rfl ?_
    exact ow_iret Z dX1_mayBeLeftOut_15 (Or.inl rfl) hh
  · skip
    refine ow_iload_n C dX1_mayBeLeftOut_7 rfl rfl ?_
    refine ow_callS C (cs_X2_isDead _) (Nat.le_of_ble_eq_true rfl) kw_242 dX1_mayBeLeftOut_8 (as := [.int x2]) (st := []) rfl rfl (Nat.le_of_ble_eq_true rfl) hh (fun r5 h4 hq => ?_)
    obtain ⟨v6, rfl, hh⟩ := sr_I_e hq
    show Sat X 11 [.ref p0, .int x1, .int x2, Value.null, Value.null] [.int v6] h4
    refine ow_if_eq (tgt := 16) C dX1_mayBeLeftOut_11 (by decide) hh (fun hh => ?_) (fun hh => ?_)
    · skip
      refine ow_aload_n C dX1_mayBeLeftOut_16 rfl rfl ?_
      refine ow_getR (ci := 1) (k := 0) (T := TX1) C rfl igX1 (by decide) kw_199 dX1_mayBeLeftOut_17 hh (fun q7 hh => ?_)
      refine ow_callV C (cv_X0_states _) (Nat.le_of_ble_eq_true rfl) kw_201 dX1_mayBeLeftOut_20 (as := []) (st := []) rfl rfl (Nat.le_of_ble_eq_true rfl) hh (fun r9 h8 hq => ?_)
      obtain ⟨v10, rfl, hh⟩ := sr_I_e hq
      show Sat X 23 [.ref p0, .int x1, .int x2, Value.null, Value.null] [.int v10] h8
      refine ow_istore_n (L' := [.ref p0, .int x1, .int x2, .int v10, Value.null]) C dX1_mayBeLeftOut_23 rfl (by decide) rfl ?_
      refine ow_iconst (v := 0) C dX1_mayBeLeftOut_24 rfl ?_
      refine ow_istore (L' := [.ref p0, .int x1, .int x2, .int v10, .int 0]) C dX1_mayBeLeftOut_25 (by decide) rfl ?_
      exact Sat.mask hh (mk_y (mk_y (mk_y (mk_y (mk_y mk_0)))))
    · skip
      refine ow_iconst (v := 0) C dX1_mayBeLeftOut_14 rfl ?_
      exact ow_iret Z dX1_mayBeLeftOut_15 (Or.inl rfl) hh
def tr_X1_mayBeLeftOut : aw_T := fun as h Q => ∃ (p0 : Nat) (x1 : Int32) (x2 : Int32), as = [.ref p0, .int x1, .int x2] ∧ (∀ (K27 : Nat → Int32 → Int32 → Int32 → Int32 → aw_H → Prop), (∀ (p0 : Nat) (x1 : Int32) (x2 : Int32) (x3 : Int32) (x4 : Int32) (h : aw_H), sm_X1_mayBeLeftOut_27 K27 Q p0 x1 x2 x3 x4 h → K27 p0 x1 x2 x3 x4 h) → sm_X1_mayBeLeftOut_0 K27 Q p0 x1 x2 h)
theorem tq_X1_mayBeLeftOut {p0 : Nat} {x1 : Int32} {x2 : Int32} {h : aw_H} {Q : aw_R} : tr_X1_mayBeLeftOut [.ref p0, .int x1, .int x2] h Q ↔ (∀ (K27 : Nat → Int32 → Int32 → Int32 → Int32 → aw_H → Prop), (∀ (p0 : Nat) (x1 : Int32) (x2 : Int32) (x3 : Int32) (x4 : Int32) (h : aw_H), sm_X1_mayBeLeftOut_27 K27 Q p0 x1 x2 x3 x4 h → K27 p0 x1 x2 x3 x4 h) → sm_X1_mayBeLeftOut_0 K27 Q p0 x1 x2 h) := by
  constructor
  · rintro ⟨_, _, _, as0, hh⟩
    cases as0
    exact hh
  · intro hh
    exact ⟨_, _, _, rfl, hh⟩
theorem ct_X1_mayBeLeftOut (E : aw_F) : CT E yX1_mayBeLeftOut cX1_mayBeLeftOut 5 (some .boolean) 3 tr_X1_mayBeLeftOut := by
  refine ct_of (by decide) ?_
  intro X Q as h hE C Z hG
  subst hE
  obtain ⟨p0, x1, x2, rfl, hh⟩ := hG
  refine ⟨[.ref p0, .int x1, .int x2, Value.null, Value.null], rfl, Nat.le_of_ble_eq_true rfl, ?_⟩
  exact bl_X1_mayBeLeftOut_0 C Z p0 x1 x2 h (hh (fun (p0 : Nat) (x1 : Int32) (x2 : Int32) (x3 : Int32) (x4 : Int32) (h : aw_H) => Sat X 27 [.ref p0, .int x1, .int x2, .int x3, .int x4] [] h) (fun p0 x1 x2 x3 x4 h hh => bl_X1_mayBeLeftOut_27 C Z p0 x1 x2 x3 x4 h hh))
theorem cv_X1_mayBeLeftOut (E : aw_F) : CV E yX1_mayBeLeftOut cX1_mayBeLeftOut 5 (some .boolean) 3 2 1 tr_X1_mayBeLeftOut := ⟨ct_X1_mayBeLeftOut E, by decide, kw_244, kw_245, kw_203, kw_243, by decide +kernel, _, _, rfl⟩
theorem dX1_firstPair_0 : decode cX1_firstPair 0 = .ok (.aload_n 0, 1) := by decide +kernel
theorem dX1_firstPair_1 : decode cX1_firstPair 1 = .ok (.getfield 12, 3) := by decide +kernel
theorem dX1_firstPair_4 : decode cX1_firstPair 4 = .ok (.invokevirtual 28, 3) := by decide +kernel
theorem dX1_firstPair_7 : decode cX1_firstPair 7 = .ok (.istore_n 1, 1) := by decide +kernel
theorem dX1_firstPair_8 : decode cX1_firstPair 8 = .ok (.iconst 0, 1) := by decide +kernel
theorem dX1_firstPair_9 : decode cX1_firstPair 9 = .ok (.istore_n 2, 1) := by decide +kernel
theorem dX1_firstPair_10 : decode cX1_firstPair 10 = .ok (.iload_n 2, 1) := by decide +kernel
theorem dX1_firstPair_11 : decode cX1_firstPair 11 = .ok (.aload_n 0, 1) := by decide +kernel
theorem dX1_firstPair_12 : decode cX1_firstPair 12 = .ok (.getfield 12, 3) := by decide +kernel
theorem dX1_firstPair_15 : decode cX1_firstPair 15 = .ok (.getfield 72, 3) := by decide +kernel
theorem dX1_firstPair_18 : decode cX1_firstPair 18 = .ok (.if_icmp .ge 123, 3) := by decide +kernel
theorem dX1_firstPair_21 : decode cX1_firstPair 21 = .ok (.iconst 0, 1) := by decide +kernel
theorem dX1_firstPair_22 : decode cX1_firstPair 22 = .ok (.istore_n 3, 1) := by decide +kernel
theorem dX1_firstPair_23 : decode cX1_firstPair 23 = .ok (.iload_n 3, 1) := by decide +kernel
theorem dX1_firstPair_24 : decode cX1_firstPair 24 = .ok (.iload_n 1, 1) := by decide +kernel
theorem dX1_firstPair_25 : decode cX1_firstPair 25 = .ok (.if_icmp .ge 16, 3) := by decide +kernel
theorem dX1_firstPair_28 : decode cX1_firstPair 28 = .ok (.aload_n 0, 1) := by decide +kernel
theorem dX1_firstPair_29 : decode cX1_firstPair 29 = .ok (.getfield 22, 3) := by decide +kernel
theorem dX1_firstPair_32 : decode cX1_firstPair 32 = .ok (.iload_n 3, 1) := by decide +kernel
theorem dX1_firstPair_33 : decode cX1_firstPair 33 = .ok (.iload_n 3, 1) := by decide +kernel
theorem dX1_firstPair_34 : decode cX1_firstPair 34 = .ok (.iastore, 1) := by decide +kernel
theorem dX1_firstPair_35 : decode cX1_firstPair 35 = .ok (.iinc 3 1, 3) := by decide +kernel
theorem dX1_firstPair_38 : decode cX1_firstPair 38 = .ok (.goto (-15), 3) := by decide +kernel
theorem dX1_firstPair_41 : decode cX1_firstPair 41 = .ok (.iload_n 2, 1) := by decide +kernel
theorem dX1_firstPair_42 : decode cX1_firstPair 42 = .ok (.iconst 1, 1) := by decide +kernel
theorem dX1_firstPair_43 : decode cX1_firstPair 43 = .ok (.iadd, 1) := by decide +kernel
theorem dX1_firstPair_44 : decode cX1_firstPair 44 = .ok (.istore_n 3, 1) := by decide +kernel
theorem dX1_firstPair_45 : decode cX1_firstPair 45 = .ok (.iload_n 3, 1) := by decide +kernel
theorem dX1_firstPair_46 : decode cX1_firstPair 46 = .ok (.aload_n 0, 1) := by decide +kernel
theorem dX1_firstPair_47 : decode cX1_firstPair 47 = .ok (.getfield 12, 3) := by decide +kernel
theorem dX1_firstPair_50 : decode cX1_firstPair 50 = .ok (.getfield 72, 3) := by decide +kernel
theorem dX1_firstPair_53 : decode cX1_firstPair 53 = .ok (.if_icmp .ge 82, 3) := by decide +kernel
theorem dX1_firstPair_56 : decode cX1_firstPair 56 = .ok (.aload_n 0, 1) := by decide +kernel
theorem dX1_firstPair_57 : decode cX1_firstPair 57 = .ok (.aload_n 0, 1) := by decide +kernel
theorem dX1_firstPair_58 : decode cX1_firstPair 58 = .ok (.getfield 12, 3) := by decide +kernel
theorem dX1_firstPair_61 : decode cX1_firstPair 61 = .ok (.getfield 75, 3) := by decide +kernel
theorem dX1_firstPair_64 : decode cX1_firstPair 64 = .ok (.iload_n 2, 1) := by decide +kernel
theorem dX1_firstPair_65 : decode cX1_firstPair 65 = .ok (.iaload, 1) := by decide +kernel
theorem dX1_firstPair_66 : decode cX1_firstPair 66 = .ok (.aload_n 0, 1) := by decide +kernel
theorem dX1_firstPair_67 : decode cX1_firstPair 67 = .ok (.getfield 12, 3) := by decide +kernel
theorem dX1_firstPair_70 : decode cX1_firstPair 70 = .ok (.getfield 75, 3) := by decide +kernel
theorem dX1_firstPair_73 : decode cX1_firstPair 73 = .ok (.iload_n 3, 1) := by decide +kernel
theorem dX1_firstPair_74 : decode cX1_firstPair 74 = .ok (.iaload, 1) := by decide +kernel
theorem dX1_firstPair_75 : decode cX1_firstPair 75 = .ok (.invokevirtual 83, 3) := by decide +kernel
theorem dX1_firstPair_78 : decode cX1_firstPair 78 = .ok (.ifCond .eq 10, 3) := by decide +kernel
theorem dX1_firstPair_81 : decode cX1_firstPair 81 = .ok (.bipush 100, 2) := by decide +kernel
theorem dX1_firstPair_83 : decode cX1_firstPair 83 = .ok (.iload_n 2, 1) := by decide +kernel
theorem dX1_firstPair_84 : decode cX1_firstPair 84 = .ok (.imul, 1) := by decide +kernel
theorem dX1_firstPair_85 : decode cX1_firstPair 85 = .ok (.iload_n 3, 1) := by decide +kernel
theorem dX1_firstPair_86 : decode cX1_firstPair 86 = .ok (.iadd, 1) := by decide +kernel
theorem dX1_firstPair_87 : decode cX1_firstPair 87 = .ok (.ireturn, 1) := by decide +kernel
theorem dX1_firstPair_88 : decode cX1_firstPair 88 = .ok (.iconst 0, 1) := by decide +kernel
theorem dX1_firstPair_89 : decode cX1_firstPair 89 = .ok (.istore 4, 2) := by decide +kernel
theorem dX1_firstPair_91 : decode cX1_firstPair 91 = .ok (.iload 4, 2) := by decide +kernel
theorem dX1_firstPair_93 : decode cX1_firstPair 93 = .ok (.iload_n 1, 1) := by decide +kernel
theorem dX1_firstPair_94 : decode cX1_firstPair 94 = .ok (.if_icmp .ge 35, 3) := by decide +kernel
theorem dX1_firstPair_97 : decode cX1_firstPair 97 = .ok (.aload_n 0, 1) := by decide +kernel
theorem dX1_firstPair_98 : decode cX1_firstPair 98 = .ok (.getfield 22, 3) := by decide +kernel
theorem dX1_firstPair_101 : decode cX1_firstPair 101 = .ok (.iload 4, 2) := by decide +kernel
theorem dX1_firstPair_103 : decode cX1_firstPair 103 = .ok (.aload_n 0, 1) := by decide +kernel
theorem dX1_firstPair_104 : decode cX1_firstPair 104 = .ok (.getfield 12, 3) := by decide +kernel
theorem dX1_firstPair_107 : decode cX1_firstPair 107 = .ok (.getfield 75, 3) := by decide +kernel
theorem dX1_firstPair_110 : decode cX1_firstPair 110 = .ok (.iload_n 3, 1) := by decide +kernel
theorem dX1_firstPair_111 : decode cX1_firstPair 111 = .ok (.iaload, 1) := by decide +kernel
theorem dX1_firstPair_112 : decode cX1_firstPair 112 = .ok (.aload_n 0, 1) := by decide +kernel
theorem dX1_firstPair_113 : decode cX1_firstPair 113 = .ok (.getfield 22, 3) := by decide +kernel
theorem dX1_firstPair_116 : decode cX1_firstPair 116 = .ok (.iload 4, 2) := by decide +kernel
theorem dX1_firstPair_118 : decode cX1_firstPair 118 = .ok (.iaload, 1) := by decide +kernel
theorem dX1_firstPair_119 : decode cX1_firstPair 119 = .ok (.invokestatic 78, 3) := by decide +kernel
theorem dX1_firstPair_122 : decode cX1_firstPair 122 = .ok (.iastore, 1) := by decide +kernel
theorem dX1_firstPair_123 : decode cX1_firstPair 123 = .ok (.iinc 4 1, 3) := by decide +kernel
theorem dX1_firstPair_126 : decode cX1_firstPair 126 = .ok (.goto (-35), 3) := by decide +kernel
theorem dX1_firstPair_129 : decode cX1_firstPair 129 = .ok (.iinc 3 1, 3) := by decide +kernel
theorem dX1_firstPair_132 : decode cX1_firstPair 132 = .ok (.goto (-87), 3) := by decide +kernel
theorem dX1_firstPair_135 : decode cX1_firstPair 135 = .ok (.iinc 2 1, 3) := by decide +kernel
theorem dX1_firstPair_138 : decode cX1_firstPair 138 = .ok (.goto (-128), 3) := by decide +kernel
theorem dX1_firstPair_141 : decode cX1_firstPair 141 = .ok (.bipush (-4), 2) := by decide +kernel
theorem dX1_firstPair_143 : decode cX1_firstPair 143 = .ok (.ireturn, 1) := by decide +kernel
def sm_X1_firstPair_91 (K10 : Nat → Int32 → Int32 → aw_H → Prop) (K23 : Nat → Int32 → Int32 → Int32 → aw_H → Prop) (K45 : Nat → Int32 → Int32 → Int32 → aw_H → Prop) (K91 : Nat → Int32 → Int32 → Int32 → Int32 → aw_H → Prop) (Q : aw_R) (p0 : Nat) (x1 : Int32) (x2 : Int32) (x3 : Int32) (x4 : Int32) (h : aw_H) : Prop :=
  if x1 ≤ x4 then (K45 p0 x1 x2 (x3 + 1) h) else (sg_R h p0 1 2 fun q1 => sg_R h p0 1 0 fun q2 => sg_R h q2 0 2 fun q3 => sa_I h q3 x3 fun v4 => sg_R h p0 1 2 fun q5 => sa_I h q5 x4 fun v6 => tr_X2_act [.int v4, .int v6] h fun r8 h7 => sr_I r8 fun v9 => ss_I h7 q1 x4 v9 fun h10 => K91 p0 x1 x2 x3 (x4 + 1) h10)
set_option maxRecDepth 100000 in
set_option maxHeartbeats 4000000 in
theorem bl_X1_firstPair_91 {X : aw_X} {Q : aw_R} (C : aw_C X cX1_firstPair RX1 5 4) (Z : aw_Z X cX1_firstPair (some .int) Q) (p0 : Nat) (x1 : Int32) (x2 : Int32) (x3 : Int32) (x4 : Int32) (h : aw_H) (hh : sm_X1_firstPair_91 (fun (p0 : Nat) (x1 : Int32) (x2 : Int32) (h : aw_H) => Sat X 10 [.ref p0, .int x1, .int x2, Value.null, Value.null] [] h) (fun (p0 : Nat) (x1 : Int32) (x2 : Int32) (x3 : Int32) (h : aw_H) => Sat X 23 [.ref p0, .int x1, .int x2, .int x3, Value.null] [] h) (fun (p0 : Nat) (x1 : Int32) (x2 : Int32) (x3 : Int32) (h : aw_H) => Sat X 45 [.ref p0, .int x1, .int x2, .int x3, Value.null] [] h) (fun (p0 : Nat) (x1 : Int32) (x2 : Int32) (x3 : Int32) (x4 : Int32) (h : aw_H) => Sat X 91 [.ref p0, .int x1, .int x2, .int x3, .int x4] [] h) Q p0 x1 x2 x3 x4 h) : Sat X 91 [.ref p0, .int x1, .int x2, .int x3, .int x4] [] h := by
  unfold sm_X1_firstPair_91 at hh
  refine ow_iload C dX1_firstPair_91 rfl ?_
  refine ow_iload_n C dX1_firstPair_93 rfl rfl ?_
  refine ow_icmp_ge (tgt := 129) C dX1_firstPair_94 (by decide) hh (fun hh => ?_) (fun hh => ?_)
  · skip
    refine ow_iinc (v := x3 + 1) (L' := [.ref p0, .int x1, .int x2, .int (x3 + 1), .int x4]) C dX1_firstPair_129 rfl rfl (by decide) rfl ?_
    refine ow_goto (tgt := 45) C dX1_firstPair_132 (by decide) ?_
    exact Sat.mask hh (mk_y (mk_y (mk_y (mk_y (mk_n mk_0)))))
  · skip
    refine ow_aload_n C dX1_firstPair_97 rfl rfl ?_
    refine ow_getR (ci := 1) (k := 2) (T := TX1) C rfl igX1 (by decide) kw_241 dX1_firstPair_98 hh (fun q1 hh => ?_)
    refine ow_iload C dX1_firstPair_101 rfl ?_
    refine ow_aload_n C dX1_firstPair_103 rfl rfl ?_
    refine ow_getR (ci := 1) (k := 0) (T := TX1) C rfl igX1 (by decide) kw_199 dX1_firstPair_104 hh (fun q2 hh => ?_)
    refine ow_getR (ci := 0) (k := 2) (T := TX0) C rfl igX0 (by decide) kw_231 dX1_firstPair_107 hh (fun q3 hh => ?_)
    refine ow_iload_n C dX1_firstPair_110 rfl rfl ?_
    refine ow_iaload C dX1_firstPair_111 hh (fun v4 hh => ?_)
    refine ow_aload_n C dX1_firstPair_112 rfl rfl ?_
    refine ow_getR (ci := 1) (k := 2) (T := TX1) C rfl igX1 (by decide) kw_241 dX1_firstPair_113 hh (fun q5 hh => ?_)
    refine ow_iload C dX1_firstPair_116 rfl ?_
    refine ow_iaload C dX1_firstPair_118 hh (fun v6 hh => ?_)
    refine ow_callS C (cs_X2_act _) (Nat.le_of_ble_eq_true rfl) kw_232 dX1_firstPair_119 (as := [.int v4, .int v6]) (st := [.int x4, .ref q1]) rfl rfl (Nat.le_of_ble_eq_true rfl) hh (fun r8 h7 hq => ?_)
    obtain ⟨v9, rfl, hh⟩ := sr_I_e hq
    show Sat X 122 [.ref p0, .int x1, .int x2, .int x3, .int x4] [.int v9, .int x4, .ref q1] h7
    refine ow_iastore C dX1_firstPair_122 hh (fun h10 hh => ?_)
    refine ow_iinc (v := x4 + 1) (L' := [.ref p0, .int x1, .int x2, .int x3, .int (x4 + 1)]) C dX1_firstPair_123 rfl rfl (by decide) rfl ?_
    refine ow_goto (tgt := 91) C dX1_firstPair_126 (by decide) ?_
    exact Sat.mask hh (mk_y (mk_y (mk_y (mk_y (mk_y mk_0)))))
def sm_X1_firstPair_45 (K10 : Nat → Int32 → Int32 → aw_H → Prop) (K23 : Nat → Int32 → Int32 → Int32 → aw_H → Prop) (K45 : Nat → Int32 → Int32 → Int32 → aw_H → Prop) (K91 : Nat → Int32 → Int32 → Int32 → Int32 → aw_H → Prop) (Q : aw_R) (p0 : Nat) (x1 : Int32) (x2 : Int32) (x3 : Int32) (h : aw_H) : Prop :=
  sg_R h p0 1 0 fun q1 => sg_I h q1 0 1 fun v2 => if v2 ≤ x3 then (K10 p0 x1 (x2 + 1) h) else (sg_R h p0 1 0 fun q3 => sg_R h q3 0 2 fun q4 => sa_I h q4 x2 fun v5 => sg_R h p0 1 0 fun q6 => sg_R h q6 0 2 fun q7 => sa_I h q7 x3 fun v8 => sv_O h p0 1 (tr_X1_mayBeLeftOut [.ref p0, .int v5, .int v8] h fun r10 h9 => sr_I r10 fun v11 => if v11 = 0 then (K91 p0 x1 x2 x3 0 h9) else (Q (some (.int ((100 * x2) + x3))) h9)))
set_option maxRecDepth 100000 in
set_option maxHeartbeats 4000000 in
theorem bl_X1_firstPair_45 {X : aw_X} {Q : aw_R} (C : aw_C X cX1_firstPair RX1 5 4) (Z : aw_Z X cX1_firstPair (some .int) Q) (p0 : Nat) (x1 : Int32) (x2 : Int32) (x3 : Int32) (h : aw_H) (hh : sm_X1_firstPair_45 (fun (p0 : Nat) (x1 : Int32) (x2 : Int32) (h : aw_H) => Sat X 10 [.ref p0, .int x1, .int x2, Value.null, Value.null] [] h) (fun (p0 : Nat) (x1 : Int32) (x2 : Int32) (x3 : Int32) (h : aw_H) => Sat X 23 [.ref p0, .int x1, .int x2, .int x3, Value.null] [] h) (fun (p0 : Nat) (x1 : Int32) (x2 : Int32) (x3 : Int32) (h : aw_H) => Sat X 45 [.ref p0, .int x1, .int x2, .int x3, Value.null] [] h) (fun (p0 : Nat) (x1 : Int32) (x2 : Int32) (x3 : Int32) (x4 : Int32) (h : aw_H) => Sat X 91 [.ref p0, .int x1, .int x2, .int x3, .int x4] [] h) Q p0 x1 x2 x3 h) : Sat X 45 [.ref p0, .int x1, .int x2, .int x3, Value.null] [] h := by
  unfold sm_X1_firstPair_45 at hh
  refine ow_iload_n C dX1_firstPair_45 rfl rfl ?_
  refine ow_aload_n C dX1_firstPair_46 rfl rfl ?_
  refine ow_getR (ci := 1) (k := 0) (T := TX1) C rfl igX1 (by decide) kw_199 dX1_firstPair_47 hh (fun q1 hh => ?_)
  refine ow_getI (ci := 0) (k := 1) (T := TX0) C rfl igX0 (by decide) kw_233 dX1_firstPair_50 hh (fun v2 hh => ?_)
  refine ow_icmp_ge (tgt := 135) C dX1_firstPair_53 (by decide) hh (fun hh => ?_) (fun hh => ?_)
  · skip
    refine ow_iinc (v := x2 + 1) (L' := [.ref p0, .int x1, .int (x2 + 1), .int x3, Value.null]) C dX1_firstPair_135 rfl rfl (by decide) rfl ?_
    refine ow_goto (tgt := 10) C dX1_firstPair_138 (by decide) ?_
    exact Sat.mask hh (mk_y (mk_y (mk_y (mk_n (mk_n mk_0)))))
  · skip
    refine ow_aload_n C dX1_firstPair_56 rfl rfl ?_
    refine ow_aload_n C dX1_firstPair_57 rfl rfl ?_
    refine ow_getR (ci := 1) (k := 0) (T := TX1) C rfl igX1 (by decide) kw_199 dX1_firstPair_58 hh (fun q3 hh => ?_)
    refine ow_getR (ci := 0) (k := 2) (T := TX0) C rfl igX0 (by decide) kw_231 dX1_firstPair_61 hh (fun q4 hh => ?_)
    refine ow_iload_n C dX1_firstPair_64 rfl rfl ?_
    refine ow_iaload C dX1_firstPair_65 hh (fun v5 hh => ?_)
    refine ow_aload_n C dX1_firstPair_66 rfl rfl ?_
    refine ow_getR (ci := 1) (k := 0) (T := TX1) C rfl igX1 (by decide) kw_199 dX1_firstPair_67 hh (fun q6 hh => ?_)
    refine ow_getR (ci := 0) (k := 2) (T := TX0) C rfl igX0 (by decide) kw_231 dX1_firstPair_70 hh (fun q7 hh => ?_)
    refine ow_iload_n C dX1_firstPair_73 rfl rfl ?_
    refine ow_iaload C dX1_firstPair_74 hh (fun v8 hh => ?_)
    refine ow_callV C (cv_X1_mayBeLeftOut _) (Nat.le_of_ble_eq_true rfl) kw_246 dX1_firstPair_75 (as := [.int v5, .int v8]) (st := []) rfl rfl (Nat.le_of_ble_eq_true rfl) hh (fun r10 h9 hq => ?_)
    obtain ⟨v11, rfl, hh⟩ := sr_I_e hq
    show Sat X 78 [.ref p0, .int x1, .int x2, .int x3, Value.null] [.int v11] h9
    refine ow_if_eq (tgt := 88) C dX1_firstPair_78 (by decide) hh (fun hh => ?_) (fun hh => ?_)
    · skip
      refine ow_iconst (v := 0) C dX1_firstPair_88 rfl ?_
      refine ow_istore (L' := [.ref p0, .int x1, .int x2, .int x3, .int 0]) C dX1_firstPair_89 (by decide) rfl ?_
      exact Sat.mask hh (mk_y (mk_y (mk_y (mk_y (mk_y mk_0)))))
    · skip
      refine ow_bipush (v := 100) C dX1_firstPair_81 rfl ?_
      refine ow_iload_n C dX1_firstPair_83 rfl rfl ?_
      refine ow_imul C dX1_firstPair_84 ?_
      refine ow_iload_n C dX1_firstPair_85 rfl rfl ?_
      refine ow_iadd C dX1_firstPair_86 ?_
      exact ow_iret Z dX1_firstPair_87 trivial hh
def sm_X1_firstPair_23 (K10 : Nat → Int32 → Int32 → aw_H → Prop) (K23 : Nat → Int32 → Int32 → Int32 → aw_H → Prop) (K45 : Nat → Int32 → Int32 → Int32 → aw_H → Prop) (K91 : Nat → Int32 → Int32 → Int32 → Int32 → aw_H → Prop) (Q : aw_R) (p0 : Nat) (x1 : Int32) (x2 : Int32) (x3 : Int32) (h : aw_H) : Prop :=
  if x1 ≤ x3 then (K45 p0 x1 x2 (x2 + 1) h) else (sg_R h p0 1 2 fun q1 => ss_I h q1 x3 x3 fun h2 => K23 p0 x1 x2 (x3 + 1) h2)
set_option maxRecDepth 100000 in
set_option maxHeartbeats 4000000 in
theorem bl_X1_firstPair_23 {X : aw_X} {Q : aw_R} (C : aw_C X cX1_firstPair RX1 5 4) (Z : aw_Z X cX1_firstPair (some .int) Q) (p0 : Nat) (x1 : Int32) (x2 : Int32) (x3 : Int32) (h : aw_H) (hh : sm_X1_firstPair_23 (fun (p0 : Nat) (x1 : Int32) (x2 : Int32) (h : aw_H) => Sat X 10 [.ref p0, .int x1, .int x2, Value.null, Value.null] [] h) (fun (p0 : Nat) (x1 : Int32) (x2 : Int32) (x3 : Int32) (h : aw_H) => Sat X 23 [.ref p0, .int x1, .int x2, .int x3, Value.null] [] h) (fun (p0 : Nat) (x1 : Int32) (x2 : Int32) (x3 : Int32) (h : aw_H) => Sat X 45 [.ref p0, .int x1, .int x2, .int x3, Value.null] [] h) (fun (p0 : Nat) (x1 : Int32) (x2 : Int32) (x3 : Int32) (x4 : Int32) (h : aw_H) => Sat X 91 [.ref p0, .int x1, .int x2, .int x3, .int x4] [] h) Q p0 x1 x2 x3 h) : Sat X 23 [.ref p0, .int x1, .int x2, .int x3, Value.null] [] h := by
  unfold sm_X1_firstPair_23 at hh
  refine ow_iload_n C dX1_firstPair_23 rfl rfl ?_
  refine ow_iload_n C dX1_firstPair_24 rfl rfl ?_
  refine ow_icmp_ge (tgt := 41) C dX1_firstPair_25 (by decide) hh (fun hh => ?_) (fun hh => ?_)
  · skip
    refine ow_iload_n C dX1_firstPair_41 rfl rfl ?_
    refine ow_iconst (v := 1) C dX1_firstPair_42 rfl ?_
    refine ow_iadd C dX1_firstPair_43 ?_
    refine ow_istore_n (L' := [.ref p0, .int x1, .int x2, .int (x2 + 1), Value.null]) C dX1_firstPair_44 rfl (by decide) rfl ?_
    exact Sat.mask hh (mk_y (mk_y (mk_y (mk_y (mk_n mk_0)))))
  · skip
    refine ow_aload_n C dX1_firstPair_28 rfl rfl ?_
    refine ow_getR (ci := 1) (k := 2) (T := TX1) C rfl igX1 (by decide) kw_241 dX1_firstPair_29 hh (fun q1 hh => ?_)
    refine ow_iload_n C dX1_firstPair_32 rfl rfl ?_
    refine ow_iload_n C dX1_firstPair_33 rfl rfl ?_
    refine ow_iastore C dX1_firstPair_34 hh (fun h2 hh => ?_)
    refine ow_iinc (v := x3 + 1) (L' := [.ref p0, .int x1, .int x2, .int (x3 + 1), Value.null]) C dX1_firstPair_35 rfl rfl (by decide) rfl ?_
    refine ow_goto (tgt := 23) C dX1_firstPair_38 (by decide) ?_
    exact Sat.mask hh (mk_y (mk_y (mk_y (mk_y (mk_n mk_0)))))
def sm_X1_firstPair_10 (K10 : Nat → Int32 → Int32 → aw_H → Prop) (K23 : Nat → Int32 → Int32 → Int32 → aw_H → Prop) (K45 : Nat → Int32 → Int32 → Int32 → aw_H → Prop) (K91 : Nat → Int32 → Int32 → Int32 → Int32 → aw_H → Prop) (Q : aw_R) (p0 : Nat) (x1 : Int32) (x2 : Int32) (h : aw_H) : Prop :=
  sg_R h p0 1 0 fun q1 => sg_I h q1 0 1 fun v2 => if v2 ≤ x2 then (Q (some (.int ((-4)))) h) else (K23 p0 x1 x2 0 h)
set_option maxRecDepth 100000 in
set_option maxHeartbeats 4000000 in
theorem bl_X1_firstPair_10 {X : aw_X} {Q : aw_R} (C : aw_C X cX1_firstPair RX1 5 4) (Z : aw_Z X cX1_firstPair (some .int) Q) (p0 : Nat) (x1 : Int32) (x2 : Int32) (h : aw_H) (hh : sm_X1_firstPair_10 (fun (p0 : Nat) (x1 : Int32) (x2 : Int32) (h : aw_H) => Sat X 10 [.ref p0, .int x1, .int x2, Value.null, Value.null] [] h) (fun (p0 : Nat) (x1 : Int32) (x2 : Int32) (x3 : Int32) (h : aw_H) => Sat X 23 [.ref p0, .int x1, .int x2, .int x3, Value.null] [] h) (fun (p0 : Nat) (x1 : Int32) (x2 : Int32) (x3 : Int32) (h : aw_H) => Sat X 45 [.ref p0, .int x1, .int x2, .int x3, Value.null] [] h) (fun (p0 : Nat) (x1 : Int32) (x2 : Int32) (x3 : Int32) (x4 : Int32) (h : aw_H) => Sat X 91 [.ref p0, .int x1, .int x2, .int x3, .int x4] [] h) Q p0 x1 x2 h) : Sat X 10 [.ref p0, .int x1, .int x2, Value.null, Value.null] [] h := by
  unfold sm_X1_firstPair_10 at hh
  refine ow_iload_n C dX1_firstPair_10 rfl rfl ?_
  refine ow_aload_n C dX1_firstPair_11 rfl rfl ?_
  refine ow_getR (ci := 1) (k := 0) (T := TX1) C rfl igX1 (by decide) kw_199 dX1_firstPair_12 hh (fun q1 hh => ?_)
  refine ow_getI (ci := 0) (k := 1) (T := TX0) C rfl igX0 (by decide) kw_233 dX1_firstPair_15 hh (fun v2 hh => ?_)
  refine ow_icmp_ge (tgt := 141) C dX1_firstPair_18 (by decide) hh (fun hh => ?_) (fun hh => ?_)
  · skip
    refine ow_bipush (v := (-4)) C dX1_firstPair_141 rfl ?_
    exact ow_iret Z dX1_firstPair_143 trivial hh
  · skip
    refine ow_iconst (v := 0) C dX1_firstPair_21 rfl ?_
    refine ow_istore_n (L' := [.ref p0, .int x1, .int x2, .int 0, Value.null]) C dX1_firstPair_22 rfl (by decide) rfl ?_
    exact Sat.mask hh (mk_y (mk_y (mk_y (mk_y (mk_n mk_0)))))
def sm_X1_firstPair_0 (K10 : Nat → Int32 → Int32 → aw_H → Prop) (K23 : Nat → Int32 → Int32 → Int32 → aw_H → Prop) (K45 : Nat → Int32 → Int32 → Int32 → aw_H → Prop) (K91 : Nat → Int32 → Int32 → Int32 → Int32 → aw_H → Prop) (Q : aw_R) (p0 : Nat) (h : aw_H) : Prop :=
  sg_R h p0 1 0 fun q1 => sv_O h q1 0 (tr_X0_states [.ref q1] h fun r3 h2 => sr_I r3 fun v4 => K10 p0 v4 0 h2)
set_option maxRecDepth 100000 in
set_option maxHeartbeats 4000000 in
theorem bl_X1_firstPair_0 {X : aw_X} {Q : aw_R} (C : aw_C X cX1_firstPair RX1 5 4) (Z : aw_Z X cX1_firstPair (some .int) Q) (p0 : Nat) (h : aw_H) (hh : sm_X1_firstPair_0 (fun (p0 : Nat) (x1 : Int32) (x2 : Int32) (h : aw_H) => Sat X 10 [.ref p0, .int x1, .int x2, Value.null, Value.null] [] h) (fun (p0 : Nat) (x1 : Int32) (x2 : Int32) (x3 : Int32) (h : aw_H) => Sat X 23 [.ref p0, .int x1, .int x2, .int x3, Value.null] [] h) (fun (p0 : Nat) (x1 : Int32) (x2 : Int32) (x3 : Int32) (h : aw_H) => Sat X 45 [.ref p0, .int x1, .int x2, .int x3, Value.null] [] h) (fun (p0 : Nat) (x1 : Int32) (x2 : Int32) (x3 : Int32) (x4 : Int32) (h : aw_H) => Sat X 91 [.ref p0, .int x1, .int x2, .int x3, .int x4] [] h) Q p0 h) : Sat X 0 [.ref p0, Value.null, Value.null, Value.null, Value.null] [] h := by
  unfold sm_X1_firstPair_0 at hh
  refine ow_aload_n C dX1_firstPair_0 rfl rfl ?_
  refine ow_getR (ci := 1) (k := 0) (T := TX1) C rfl igX1 (by decide) kw_199 dX1_firstPair_1 hh (fun q1 hh => ?_)
  refine ow_callV C (cv_X0_states _) (Nat.le_of_ble_eq_true rfl) kw_201 dX1_firstPair_4 (as := []) (st := []) rfl rfl (Nat.le_of_ble_eq_true rfl) hh (fun r3 h2 hq => ?_)
  obtain ⟨v4, rfl, hh⟩ := sr_I_e hq
  show Sat X 7 [.ref p0, Value.null, Value.null, Value.null, Value.null] [.int v4] h2
  refine ow_istore_n (L' := [.ref p0, .int v4, Value.null, Value.null, Value.null]) C dX1_firstPair_7 rfl (by decide) rfl ?_
  refine ow_iconst (v := 0) C dX1_firstPair_8 rfl ?_
  refine ow_istore_n (L' := [.ref p0, .int v4, .int 0, Value.null, Value.null]) C dX1_firstPair_9 rfl (by decide) rfl ?_
  exact Sat.mask hh (mk_y (mk_y (mk_y (mk_n (mk_n mk_0)))))
def tr_X1_firstPair : aw_T := fun as h Q => ∃ (p0 : Nat), as = [.ref p0] ∧ (∀ (K10 : Nat → Int32 → Int32 → aw_H → Prop) (K23 : Nat → Int32 → Int32 → Int32 → aw_H → Prop) (K45 : Nat → Int32 → Int32 → Int32 → aw_H → Prop) (K91 : Nat → Int32 → Int32 → Int32 → Int32 → aw_H → Prop), (∀ (p0 : Nat) (x1 : Int32) (x2 : Int32) (h : aw_H), sm_X1_firstPair_10 K10 K23 K45 K91 Q p0 x1 x2 h → K10 p0 x1 x2 h) → (∀ (p0 : Nat) (x1 : Int32) (x2 : Int32) (x3 : Int32) (h : aw_H), sm_X1_firstPair_23 K10 K23 K45 K91 Q p0 x1 x2 x3 h → K23 p0 x1 x2 x3 h) → (∀ (p0 : Nat) (x1 : Int32) (x2 : Int32) (x3 : Int32) (h : aw_H), sm_X1_firstPair_45 K10 K23 K45 K91 Q p0 x1 x2 x3 h → K45 p0 x1 x2 x3 h) → (∀ (p0 : Nat) (x1 : Int32) (x2 : Int32) (x3 : Int32) (x4 : Int32) (h : aw_H), sm_X1_firstPair_91 K10 K23 K45 K91 Q p0 x1 x2 x3 x4 h → K91 p0 x1 x2 x3 x4 h) → sm_X1_firstPair_0 K10 K23 K45 K91 Q p0 h)
theorem tq_X1_firstPair {p0 : Nat} {h : aw_H} {Q : aw_R} : tr_X1_firstPair [.ref p0] h Q ↔ (∀ (K10 : Nat → Int32 → Int32 → aw_H → Prop) (K23 : Nat → Int32 → Int32 → Int32 → aw_H → Prop) (K45 : Nat → Int32 → Int32 → Int32 → aw_H → Prop) (K91 : Nat → Int32 → Int32 → Int32 → Int32 → aw_H → Prop), (∀ (p0 : Nat) (x1 : Int32) (x2 : Int32) (h : aw_H), sm_X1_firstPair_10 K10 K23 K45 K91 Q p0 x1 x2 h → K10 p0 x1 x2 h) → (∀ (p0 : Nat) (x1 : Int32) (x2 : Int32) (x3 : Int32) (h : aw_H), sm_X1_firstPair_23 K10 K23 K45 K91 Q p0 x1 x2 x3 h → K23 p0 x1 x2 x3 h) → (∀ (p0 : Nat) (x1 : Int32) (x2 : Int32) (x3 : Int32) (h : aw_H), sm_X1_firstPair_45 K10 K23 K45 K91 Q p0 x1 x2 x3 h → K45 p0 x1 x2 x3 h) → (∀ (p0 : Nat) (x1 : Int32) (x2 : Int32) (x3 : Int32) (x4 : Int32) (h : aw_H), sm_X1_firstPair_91 K10 K23 K45 K91 Q p0 x1 x2 x3 x4 h → K91 p0 x1 x2 x3 x4 h) → sm_X1_firstPair_0 K10 K23 K45 K91 Q p0 h) := by
  constructor
  · rintro ⟨_, as0, hh⟩
    cases as0
    exact hh
  · intro hh
    exact ⟨_, rfl, hh⟩
theorem ct_X1_firstPair (E : aw_F) : CT E yX1_firstPair cX1_firstPair 5 (some .int) 4 tr_X1_firstPair := by
  refine ct_of (by decide) ?_
  intro X Q as h hE C Z hG
  subst hE
  obtain ⟨p0, rfl, hh⟩ := hG
  refine ⟨[.ref p0, Value.null, Value.null, Value.null, Value.null], rfl, Nat.le_of_ble_eq_true rfl, ?_⟩
  exact bl_X1_firstPair_0 C Z p0 h (hh (fun (p0 : Nat) (x1 : Int32) (x2 : Int32) (h : aw_H) => Sat X 10 [.ref p0, .int x1, .int x2, Value.null, Value.null] [] h) (fun (p0 : Nat) (x1 : Int32) (x2 : Int32) (x3 : Int32) (h : aw_H) => Sat X 23 [.ref p0, .int x1, .int x2, .int x3, Value.null] [] h) (fun (p0 : Nat) (x1 : Int32) (x2 : Int32) (x3 : Int32) (h : aw_H) => Sat X 45 [.ref p0, .int x1, .int x2, .int x3, Value.null] [] h) (fun (p0 : Nat) (x1 : Int32) (x2 : Int32) (x3 : Int32) (x4 : Int32) (h : aw_H) => Sat X 91 [.ref p0, .int x1, .int x2, .int x3, .int x4] [] h) (fun p0 x1 x2 h hh => bl_X1_firstPair_10 C Z p0 x1 x2 h hh) (fun p0 x1 x2 x3 h hh => bl_X1_firstPair_23 C Z p0 x1 x2 x3 h hh) (fun p0 x1 x2 x3 h hh => bl_X1_firstPair_45 C Z p0 x1 x2 x3 h hh) (fun p0 x1 x2 x3 x4 h hh => bl_X1_firstPair_91 C Z p0 x1 x2 x3 x4 h hh))
theorem cv_X1_firstPair (E : aw_F) : CV E yX1_firstPair cX1_firstPair 5 (some .int) 4 0 1 tr_X1_firstPair := ⟨ct_X1_firstPair E, by decide, kw_248, kw_249, kw_203, kw_247, by decide +kernel, _, _, rfl⟩
theorem dX1_hangsOn_0 : decode cX1_hangsOn 0 = .ok (.aload_n 0, 1) := by decide +kernel
theorem dX1_hangsOn_1 : decode cX1_hangsOn 1 = .ok (.invokevirtual 39, 3) := by decide +kernel
theorem dX1_hangsOn_4 : decode cX1_hangsOn 4 = .ok (.iconst 0, 1) := by decide +kernel
theorem dX1_hangsOn_5 : decode cX1_hangsOn 5 = .ok (.istore_n 2, 1) := by decide +kernel
theorem dX1_hangsOn_6 : decode cX1_hangsOn 6 = .ok (.aload_n 0, 1) := by decide +kernel
theorem dX1_hangsOn_7 : decode cX1_hangsOn 7 = .ok (.getfield 12, 3) := by decide +kernel
theorem dX1_hangsOn_10 : decode cX1_hangsOn 10 = .ok (.invokevirtual 28, 3) := by decide +kernel
theorem dX1_hangsOn_13 : decode cX1_hangsOn 13 = .ok (.istore_n 3, 1) := by decide +kernel
theorem dX1_hangsOn_14 : decode cX1_hangsOn 14 = .ok (.iconst 0, 1) := by decide +kernel
theorem dX1_hangsOn_15 : decode cX1_hangsOn 15 = .ok (.istore 4, 2) := by decide +kernel
theorem dX1_hangsOn_17 : decode cX1_hangsOn 17 = .ok (.iload 4, 2) := by decide +kernel
theorem dX1_hangsOn_19 : decode cX1_hangsOn 19 = .ok (.aload_n 0, 1) := by decide +kernel
theorem dX1_hangsOn_20 : decode cX1_hangsOn 20 = .ok (.getfield 12, 3) := by decide +kernel
theorem dX1_hangsOn_23 : decode cX1_hangsOn 23 = .ok (.getfield 91, 3) := by decide +kernel
theorem dX1_hangsOn_26 : decode cX1_hangsOn 26 = .ok (.if_icmp .ge 58, 3) := by decide +kernel
theorem dX1_hangsOn_29 : decode cX1_hangsOn 29 = .ok (.iconst 0, 1) := by decide +kernel
theorem dX1_hangsOn_30 : decode cX1_hangsOn 30 = .ok (.istore 5, 2) := by decide +kernel
theorem dX1_hangsOn_32 : decode cX1_hangsOn 32 = .ok (.iload 5, 2) := by decide +kernel
theorem dX1_hangsOn_34 : decode cX1_hangsOn 34 = .ok (.iload_n 3, 1) := by decide +kernel
theorem dX1_hangsOn_35 : decode cX1_hangsOn 35 = .ok (.if_icmp .ge 43, 3) := by decide +kernel
theorem dX1_hangsOn_38 : decode cX1_hangsOn 38 = .ok (.aload_n 0, 1) := by decide +kernel
theorem dX1_hangsOn_39 : decode cX1_hangsOn 39 = .ok (.getfield 18, 3) := by decide +kernel
theorem dX1_hangsOn_42 : decode cX1_hangsOn 42 = .ok (.iload 5, 2) := by decide +kernel
theorem dX1_hangsOn_44 : decode cX1_hangsOn 44 = .ok (.iaload, 1) := by decide +kernel
theorem dX1_hangsOn_45 : decode cX1_hangsOn 45 = .ok (.aload_n 0, 1) := by decide +kernel
theorem dX1_hangsOn_46 : decode cX1_hangsOn 46 = .ok (.getfield 18, 3) := by decide +kernel
theorem dX1_hangsOn_49 : decode cX1_hangsOn 49 = .ok (.iload 5, 2) := by decide +kernel
theorem dX1_hangsOn_51 : decode cX1_hangsOn 51 = .ok (.iconst 1, 1) := by decide +kernel
theorem dX1_hangsOn_52 : decode cX1_hangsOn 52 = .ok (.iload 4, 2) := by decide +kernel
theorem dX1_hangsOn_54 : decode cX1_hangsOn 54 = .ok (.ishl, 1) := by decide +kernel
theorem dX1_hangsOn_55 : decode cX1_hangsOn 55 = .ok (.ixor, 1) := by decide +kernel
theorem dX1_hangsOn_56 : decode cX1_hangsOn 56 = .ok (.iaload, 1) := by decide +kernel
theorem dX1_hangsOn_57 : decode cX1_hangsOn 57 = .ok (.ixor, 1) := by decide +kernel
theorem dX1_hangsOn_58 : decode cX1_hangsOn 58 = .ok (.iload_n 1, 1) := by decide +kernel
theorem dX1_hangsOn_59 : decode cX1_hangsOn 59 = .ok (.ishr, 1) := by decide +kernel
theorem dX1_hangsOn_60 : decode cX1_hangsOn 60 = .ok (.iconst 1, 1) := by decide +kernel
theorem dX1_hangsOn_61 : decode cX1_hangsOn 61 = .ok (.iand, 1) := by decide +kernel
theorem dX1_hangsOn_62 : decode cX1_hangsOn 62 = .ok (.ifCond .eq 10, 3) := by decide +kernel
theorem dX1_hangsOn_65 : decode cX1_hangsOn 65 = .ok (.iload_n 2, 1) := by decide +kernel
theorem dX1_hangsOn_66 : decode cX1_hangsOn 66 = .ok (.iconst 1, 1) := by decide +kernel
theorem dX1_hangsOn_67 : decode cX1_hangsOn 67 = .ok (.iload 4, 2) := by decide +kernel
theorem dX1_hangsOn_69 : decode cX1_hangsOn 69 = .ok (.ishl, 1) := by decide +kernel
theorem dX1_hangsOn_70 : decode cX1_hangsOn 70 = .ok (.ior, 1) := by decide +kernel
theorem dX1_hangsOn_71 : decode cX1_hangsOn 71 = .ok (.istore_n 2, 1) := by decide +kernel
theorem dX1_hangsOn_72 : decode cX1_hangsOn 72 = .ok (.iinc 5 1, 3) := by decide +kernel
theorem dX1_hangsOn_75 : decode cX1_hangsOn 75 = .ok (.goto (-43), 3) := by decide +kernel
theorem dX1_hangsOn_78 : decode cX1_hangsOn 78 = .ok (.iinc 4 1, 3) := by decide +kernel
theorem dX1_hangsOn_81 : decode cX1_hangsOn 81 = .ok (.goto (-64), 3) := by decide +kernel
theorem dX1_hangsOn_84 : decode cX1_hangsOn 84 = .ok (.iload_n 2, 1) := by decide +kernel
theorem dX1_hangsOn_85 : decode cX1_hangsOn 85 = .ok (.ireturn, 1) := by decide +kernel
def sm_X1_hangsOn_32 (K17 : Nat → Int32 → Int32 → Int32 → Int32 → aw_H → Prop) (K32 : Nat → Int32 → Int32 → Int32 → Int32 → Int32 → aw_H → Prop) (Q : aw_R) (p0 : Nat) (x1 : Int32) (x2 : Int32) (x3 : Int32) (x4 : Int32) (x5 : Int32) (h : aw_H) : Prop :=
  if x3 ≤ x5 then (K17 p0 x1 x2 x3 (x4 + 1) h) else (sg_R h p0 1 1 fun q1 => sa_I h q1 x5 fun v2 => sg_R h p0 1 1 fun q3 => sa_I h q3 (x5 ^^^ ((1 : Int32) <<< (x4 &&& 31))) fun v4 => if (((v2 ^^^ v4) >>> (x1 &&& 31)) &&& 1) = 0 then (K32 p0 x1 x2 x3 x4 (x5 + 1) h) else (K32 p0 x1 (x2 ||| ((1 : Int32) <<< (x4 &&& 31))) x3 x4 (x5 + 1) h))
set_option maxRecDepth 100000 in
set_option maxHeartbeats 4000000 in
theorem bl_X1_hangsOn_32 {X : aw_X} {Q : aw_R} (C : aw_C X cX1_hangsOn RX1 6 5) (Z : aw_Z X cX1_hangsOn (some .int) Q) (p0 : Nat) (x1 : Int32) (x2 : Int32) (x3 : Int32) (x4 : Int32) (x5 : Int32) (h : aw_H) (hh : sm_X1_hangsOn_32 (fun (p0 : Nat) (x1 : Int32) (x2 : Int32) (x3 : Int32) (x4 : Int32) (h : aw_H) => Sat X 17 [.ref p0, .int x1, .int x2, .int x3, .int x4, Value.null] [] h) (fun (p0 : Nat) (x1 : Int32) (x2 : Int32) (x3 : Int32) (x4 : Int32) (x5 : Int32) (h : aw_H) => Sat X 32 [.ref p0, .int x1, .int x2, .int x3, .int x4, .int x5] [] h) Q p0 x1 x2 x3 x4 x5 h) : Sat X 32 [.ref p0, .int x1, .int x2, .int x3, .int x4, .int x5] [] h := by
  unfold sm_X1_hangsOn_32 at hh
  refine ow_iload C dX1_hangsOn_32 rfl ?_
  refine ow_iload_n C dX1_hangsOn_34 rfl rfl ?_
  refine ow_icmp_ge (tgt := 78) C dX1_hangsOn_35 (by decide) hh (fun hh => ?_) (fun hh => ?_)
  · skip
    refine ow_iinc (v := x4 + 1) (L' := [.ref p0, .int x1, .int x2, .int x3, .int (x4 + 1), .int x5]) C dX1_hangsOn_78 rfl rfl (by decide) rfl ?_
    refine ow_goto (tgt := 17) C dX1_hangsOn_81 (by decide) ?_
    exact Sat.mask hh (mk_y (mk_y (mk_y (mk_y (mk_y (mk_n mk_0))))))
  · skip
    refine ow_aload_n C dX1_hangsOn_38 rfl rfl ?_
    refine ow_getR (ci := 1) (k := 1) (T := TX1) C rfl igX1 (by decide) kw_198 dX1_hangsOn_39 hh (fun q1 hh => ?_)
    refine ow_iload C dX1_hangsOn_42 rfl ?_
    refine ow_iaload C dX1_hangsOn_44 hh (fun v2 hh => ?_)
    refine ow_aload_n C dX1_hangsOn_45 rfl rfl ?_
    refine ow_getR (ci := 1) (k := 1) (T := TX1) C rfl igX1 (by decide) kw_198 dX1_hangsOn_46 hh (fun q3 hh => ?_)
    refine ow_iload C dX1_hangsOn_49 rfl ?_
    refine ow_iconst (v := 1) C dX1_hangsOn_51 rfl ?_
    refine ow_iload C dX1_hangsOn_52 rfl ?_
    refine ow_ishl C dX1_hangsOn_54 ?_
    refine ow_ixor C dX1_hangsOn_55 ?_
    refine ow_iaload C dX1_hangsOn_56 hh (fun v4 hh => ?_)
    refine ow_ixor C dX1_hangsOn_57 ?_
    refine ow_iload_n C dX1_hangsOn_58 rfl rfl ?_
    refine ow_ishr C dX1_hangsOn_59 ?_
    refine ow_iconst (v := 1) C dX1_hangsOn_60 rfl ?_
    refine ow_iand C dX1_hangsOn_61 ?_
    refine ow_if_eq (tgt := 72) C dX1_hangsOn_62 (by decide) hh (fun hh => ?_) (fun hh => ?_)
    · skip
      refine ow_iinc (v := x5 + 1) (L' := [.ref p0, .int x1, .int x2, .int x3, .int x4, .int (x5 + 1)]) C dX1_hangsOn_72 rfl rfl (by decide) rfl ?_
      refine ow_goto (tgt := 32) C dX1_hangsOn_75 (by decide) ?_
      exact Sat.mask hh (mk_y (mk_y (mk_y (mk_y (mk_y (mk_y mk_0))))))
    · skip
      refine ow_iload_n C dX1_hangsOn_65 rfl rfl ?_
      refine ow_iconst (v := 1) C dX1_hangsOn_66 rfl ?_
      refine ow_iload C dX1_hangsOn_67 rfl ?_
      refine ow_ishl C dX1_hangsOn_69 ?_
      refine ow_ior C dX1_hangsOn_70 ?_
      refine ow_istore_n (L' := [.ref p0, .int x1, .int (x2 ||| ((1 : Int32) <<< (x4 &&& 31))), .int x3, .int x4, .int x5]) C dX1_hangsOn_71 rfl (by decide) rfl ?_
      refine ow_iinc (v := x5 + 1) (L' := [.ref p0, .int x1, .int (x2 ||| ((1 : Int32) <<< (x4 &&& 31))), .int x3, .int x4, .int (x5 + 1)]) C dX1_hangsOn_72 rfl rfl (by decide) rfl ?_
      refine ow_goto (tgt := 32) C dX1_hangsOn_75 (by decide) ?_
      exact Sat.mask hh (mk_y (mk_y (mk_y (mk_y (mk_y (mk_y mk_0))))))
def sm_X1_hangsOn_17 (K17 : Nat → Int32 → Int32 → Int32 → Int32 → aw_H → Prop) (K32 : Nat → Int32 → Int32 → Int32 → Int32 → Int32 → aw_H → Prop) (Q : aw_R) (p0 : Nat) (x1 : Int32) (x2 : Int32) (x3 : Int32) (x4 : Int32) (h : aw_H) : Prop :=
  sg_R h p0 1 0 fun q1 => sg_I h q1 0 0 fun v2 => if v2 ≤ x4 then (Q (some (.int x2)) h) else (K32 p0 x1 x2 x3 x4 0 h)
set_option maxRecDepth 100000 in
set_option maxHeartbeats 4000000 in
theorem bl_X1_hangsOn_17 {X : aw_X} {Q : aw_R} (C : aw_C X cX1_hangsOn RX1 6 5) (Z : aw_Z X cX1_hangsOn (some .int) Q) (p0 : Nat) (x1 : Int32) (x2 : Int32) (x3 : Int32) (x4 : Int32) (h : aw_H) (hh : sm_X1_hangsOn_17 (fun (p0 : Nat) (x1 : Int32) (x2 : Int32) (x3 : Int32) (x4 : Int32) (h : aw_H) => Sat X 17 [.ref p0, .int x1, .int x2, .int x3, .int x4, Value.null] [] h) (fun (p0 : Nat) (x1 : Int32) (x2 : Int32) (x3 : Int32) (x4 : Int32) (x5 : Int32) (h : aw_H) => Sat X 32 [.ref p0, .int x1, .int x2, .int x3, .int x4, .int x5] [] h) Q p0 x1 x2 x3 x4 h) : Sat X 17 [.ref p0, .int x1, .int x2, .int x3, .int x4, Value.null] [] h := by
  unfold sm_X1_hangsOn_17 at hh
  refine ow_iload C dX1_hangsOn_17 rfl ?_
  refine ow_aload_n C dX1_hangsOn_19 rfl rfl ?_
  refine ow_getR (ci := 1) (k := 0) (T := TX1) C rfl igX1 (by decide) kw_199 dX1_hangsOn_20 hh (fun q1 hh => ?_)
  refine ow_getI (ci := 0) (k := 0) (T := TX0) C rfl igX0 (by decide) kw_250 dX1_hangsOn_23 hh (fun v2 hh => ?_)
  refine ow_icmp_ge (tgt := 84) C dX1_hangsOn_26 (by decide) hh (fun hh => ?_) (fun hh => ?_)
  · skip
    refine ow_iload_n C dX1_hangsOn_84 rfl rfl ?_
    exact ow_iret Z dX1_hangsOn_85 trivial hh
  · skip
    refine ow_iconst (v := 0) C dX1_hangsOn_29 rfl ?_
    refine ow_istore (L' := [.ref p0, .int x1, .int x2, .int x3, .int x4, .int 0]) C dX1_hangsOn_30 (by decide) rfl ?_
    exact Sat.mask hh (mk_y (mk_y (mk_y (mk_y (mk_y (mk_y mk_0))))))
def sm_X1_hangsOn_0 (K17 : Nat → Int32 → Int32 → Int32 → Int32 → aw_H → Prop) (K32 : Nat → Int32 → Int32 → Int32 → Int32 → Int32 → aw_H → Prop) (Q : aw_R) (p0 : Nat) (x1 : Int32) (h : aw_H) : Prop :=
  sv_O h p0 1 (tr_X1_learnRuns [.ref p0] h fun r2 h1 => sr_V r2 <| sg_R h1 p0 1 0 fun q3 => sv_O h1 q3 0 (tr_X0_states [.ref q3] h1 fun r5 h4 => sr_I r5 fun v6 => K17 p0 x1 0 v6 0 h4))
set_option maxRecDepth 100000 in
set_option maxHeartbeats 4000000 in
theorem bl_X1_hangsOn_0 {X : aw_X} {Q : aw_R} (C : aw_C X cX1_hangsOn RX1 6 5) (Z : aw_Z X cX1_hangsOn (some .int) Q) (p0 : Nat) (x1 : Int32) (h : aw_H) (hh : sm_X1_hangsOn_0 (fun (p0 : Nat) (x1 : Int32) (x2 : Int32) (x3 : Int32) (x4 : Int32) (h : aw_H) => Sat X 17 [.ref p0, .int x1, .int x2, .int x3, .int x4, Value.null] [] h) (fun (p0 : Nat) (x1 : Int32) (x2 : Int32) (x3 : Int32) (x4 : Int32) (x5 : Int32) (h : aw_H) => Sat X 32 [.ref p0, .int x1, .int x2, .int x3, .int x4, .int x5] [] h) Q p0 x1 h) : Sat X 0 [.ref p0, .int x1, Value.null, Value.null, Value.null, Value.null] [] h := by
  unfold sm_X1_hangsOn_0 at hh
  refine ow_aload_n C dX1_hangsOn_0 rfl rfl ?_
  refine ow_callV C (cv_X1_learnRuns _) (Nat.le_of_ble_eq_true rfl) kw_227 dX1_hangsOn_1 (as := []) (st := []) rfl rfl (Nat.le_of_ble_eq_true rfl) hh (fun r2 h1 hq => ?_)
  obtain ⟨rfl, hh⟩ := sr_V_e hq
  show Sat X 4 [.ref p0, .int x1, Value.null, Value.null, Value.null, Value.null] [] h1
  refine ow_iconst (v := 0) C dX1_hangsOn_4 rfl ?_
  refine ow_istore_n (L' := [.ref p0, .int x1, .int 0, Value.null, Value.null, Value.null]) C dX1_hangsOn_5 rfl (by decide) rfl ?_
  refine ow_aload_n C dX1_hangsOn_6 rfl rfl ?_
  refine ow_getR (ci := 1) (k := 0) (T := TX1) C rfl igX1 (by decide) kw_199 dX1_hangsOn_7 hh (fun q3 hh => ?_)
  refine ow_callV C (cv_X0_states _) (Nat.le_of_ble_eq_true rfl) kw_201 dX1_hangsOn_10 (as := []) (st := []) rfl rfl (Nat.le_of_ble_eq_true rfl) hh (fun r5 h4 hq => ?_)
  obtain ⟨v6, rfl, hh⟩ := sr_I_e hq
  show Sat X 13 [.ref p0, .int x1, .int 0, Value.null, Value.null, Value.null] [.int v6] h4
  refine ow_istore_n (L' := [.ref p0, .int x1, .int 0, .int v6, Value.null, Value.null]) C dX1_hangsOn_13 rfl (by decide) rfl ?_
  refine ow_iconst (v := 0) C dX1_hangsOn_14 rfl ?_
  refine ow_istore (L' := [.ref p0, .int x1, .int 0, .int v6, .int 0, Value.null]) C dX1_hangsOn_15 (by decide) rfl ?_
  exact Sat.mask hh (mk_y (mk_y (mk_y (mk_y (mk_y (mk_n mk_0))))))
def tr_X1_hangsOn : aw_T := fun as h Q => ∃ (p0 : Nat) (x1 : Int32), as = [.ref p0, .int x1] ∧ (∀ (K17 : Nat → Int32 → Int32 → Int32 → Int32 → aw_H → Prop) (K32 : Nat → Int32 → Int32 → Int32 → Int32 → Int32 → aw_H → Prop), (∀ (p0 : Nat) (x1 : Int32) (x2 : Int32) (x3 : Int32) (x4 : Int32) (h : aw_H), sm_X1_hangsOn_17 K17 K32 Q p0 x1 x2 x3 x4 h → K17 p0 x1 x2 x3 x4 h) → (∀ (p0 : Nat) (x1 : Int32) (x2 : Int32) (x3 : Int32) (x4 : Int32) (x5 : Int32) (h : aw_H), sm_X1_hangsOn_32 K17 K32 Q p0 x1 x2 x3 x4 x5 h → K32 p0 x1 x2 x3 x4 x5 h) → sm_X1_hangsOn_0 K17 K32 Q p0 x1 h)
theorem tq_X1_hangsOn {p0 : Nat} {x1 : Int32} {h : aw_H} {Q : aw_R} : tr_X1_hangsOn [.ref p0, .int x1] h Q ↔ (∀ (K17 : Nat → Int32 → Int32 → Int32 → Int32 → aw_H → Prop) (K32 : Nat → Int32 → Int32 → Int32 → Int32 → Int32 → aw_H → Prop), (∀ (p0 : Nat) (x1 : Int32) (x2 : Int32) (x3 : Int32) (x4 : Int32) (h : aw_H), sm_X1_hangsOn_17 K17 K32 Q p0 x1 x2 x3 x4 h → K17 p0 x1 x2 x3 x4 h) → (∀ (p0 : Nat) (x1 : Int32) (x2 : Int32) (x3 : Int32) (x4 : Int32) (x5 : Int32) (h : aw_H), sm_X1_hangsOn_32 K17 K32 Q p0 x1 x2 x3 x4 x5 h → K32 p0 x1 x2 x3 x4 x5 h) → sm_X1_hangsOn_0 K17 K32 Q p0 x1 h) := by
  constructor
  · rintro ⟨_, _, as0, hh⟩
    cases as0
    exact hh
  · intro hh
    exact ⟨_, _, rfl, hh⟩
theorem ct_X1_hangsOn (E : aw_F) : CT E yX1_hangsOn cX1_hangsOn 6 (some .int) 5 tr_X1_hangsOn := by
  refine ct_of (by decide) ?_
  intro X Q as h hE C Z hG
  subst hE
  obtain ⟨p0, x1, rfl, hh⟩ := hG
  refine ⟨[.ref p0, .int x1, Value.null, Value.null, Value.null, Value.null], rfl, Nat.le_of_ble_eq_true rfl, ?_⟩
  exact bl_X1_hangsOn_0 C Z p0 x1 h (hh (fun (p0 : Nat) (x1 : Int32) (x2 : Int32) (x3 : Int32) (x4 : Int32) (h : aw_H) => Sat X 17 [.ref p0, .int x1, .int x2, .int x3, .int x4, Value.null] [] h) (fun (p0 : Nat) (x1 : Int32) (x2 : Int32) (x3 : Int32) (x4 : Int32) (x5 : Int32) (h : aw_H) => Sat X 32 [.ref p0, .int x1, .int x2, .int x3, .int x4, .int x5] [] h) (fun p0 x1 x2 x3 x4 h hh => bl_X1_hangsOn_17 C Z p0 x1 x2 x3 x4 h hh) (fun p0 x1 x2 x3 x4 x5 h hh => bl_X1_hangsOn_32 C Z p0 x1 x2 x3 x4 x5 h hh))
theorem cv_X1_hangsOn (E : aw_F) : CV E yX1_hangsOn cX1_hangsOn 6 (some .int) 5 1 1 tr_X1_hangsOn := ⟨ct_X1_hangsOn E, by decide, kw_252, kw_253, kw_203, kw_251, by decide +kernel, _, _, rfl⟩
theorem dX1_turnedStates_0 : decode cX1_turnedStates 0 = .ok (.iconst 0, 1) := by decide +kernel
theorem dX1_turnedStates_1 : decode cX1_turnedStates 1 = .ok (.istore_n 2, 1) := by decide +kernel
theorem dX1_turnedStates_2 : decode cX1_turnedStates 2 = .ok (.aload_n 0, 1) := by decide +kernel
theorem dX1_turnedStates_3 : decode cX1_turnedStates 3 = .ok (.getfield 12, 3) := by decide +kernel
theorem dX1_turnedStates_6 : decode cX1_turnedStates 6 = .ok (.invokevirtual 28, 3) := by decide +kernel
theorem dX1_turnedStates_9 : decode cX1_turnedStates 9 = .ok (.istore_n 3, 1) := by decide +kernel
theorem dX1_turnedStates_10 : decode cX1_turnedStates 10 = .ok (.iconst 0, 1) := by decide +kernel
theorem dX1_turnedStates_11 : decode cX1_turnedStates 11 = .ok (.istore 4, 2) := by decide +kernel
theorem dX1_turnedStates_13 : decode cX1_turnedStates 13 = .ok (.iload 4, 2) := by decide +kernel
theorem dX1_turnedStates_15 : decode cX1_turnedStates 15 = .ok (.iload_n 3, 1) := by decide +kernel
theorem dX1_turnedStates_16 : decode cX1_turnedStates 16 = .ok (.if_icmp .ge 28, 3) := by decide +kernel
theorem dX1_turnedStates_19 : decode cX1_turnedStates 19 = .ok (.iload_n 2, 1) := by decide +kernel
theorem dX1_turnedStates_20 : decode cX1_turnedStates 20 = .ok (.aload_n 0, 1) := by decide +kernel
theorem dX1_turnedStates_21 : decode cX1_turnedStates 21 = .ok (.getfield 12, 3) := by decide +kernel
theorem dX1_turnedStates_24 : decode cX1_turnedStates 24 = .ok (.iload 4, 2) := by decide +kernel
theorem dX1_turnedStates_26 : decode cX1_turnedStates 26 = .ok (.invokevirtual 32, 3) := by decide +kernel
theorem dX1_turnedStates_29 : decode cX1_turnedStates 29 = .ok (.iload 4, 2) := by decide +kernel
theorem dX1_turnedStates_31 : decode cX1_turnedStates 31 = .ok (.ixor, 1) := by decide +kernel
theorem dX1_turnedStates_32 : decode cX1_turnedStates 32 = .ok (.iload_n 1, 1) := by decide +kernel
theorem dX1_turnedStates_33 : decode cX1_turnedStates 33 = .ok (.ishr, 1) := by decide +kernel
theorem dX1_turnedStates_34 : decode cX1_turnedStates 34 = .ok (.iconst 1, 1) := by decide +kernel
theorem dX1_turnedStates_35 : decode cX1_turnedStates 35 = .ok (.iand, 1) := by decide +kernel
theorem dX1_turnedStates_36 : decode cX1_turnedStates 36 = .ok (.iadd, 1) := by decide +kernel
theorem dX1_turnedStates_37 : decode cX1_turnedStates 37 = .ok (.istore_n 2, 1) := by decide +kernel
theorem dX1_turnedStates_38 : decode cX1_turnedStates 38 = .ok (.iinc 4 1, 3) := by decide +kernel
theorem dX1_turnedStates_41 : decode cX1_turnedStates 41 = .ok (.goto (-28), 3) := by decide +kernel
theorem dX1_turnedStates_44 : decode cX1_turnedStates 44 = .ok (.iload_n 2, 1) := by decide +kernel
theorem dX1_turnedStates_45 : decode cX1_turnedStates 45 = .ok (.ireturn, 1) := by decide +kernel
def sm_X1_turnedStates_13 (K13 : Nat → Int32 → Int32 → Int32 → Int32 → aw_H → Prop) (Q : aw_R) (p0 : Nat) (x1 : Int32) (x2 : Int32) (x3 : Int32) (x4 : Int32) (h : aw_H) : Prop :=
  if x3 ≤ x4 then (Q (some (.int x2)) h) else (sg_R h p0 1 0 fun q1 => sv_O h q1 0 (tr_X0_run [.ref q1, .int x4] h fun r3 h2 => sr_I r3 fun v4 => K13 p0 x1 (x2 + (((v4 ^^^ x4) >>> (x1 &&& 31)) &&& 1)) x3 (x4 + 1) h2))
set_option maxRecDepth 100000 in
set_option maxHeartbeats 4000000 in
theorem bl_X1_turnedStates_13 {X : aw_X} {Q : aw_R} (C : aw_C X cX1_turnedStates RX1 5 4) (Z : aw_Z X cX1_turnedStates (some .int) Q) (p0 : Nat) (x1 : Int32) (x2 : Int32) (x3 : Int32) (x4 : Int32) (h : aw_H) (hh : sm_X1_turnedStates_13 (fun (p0 : Nat) (x1 : Int32) (x2 : Int32) (x3 : Int32) (x4 : Int32) (h : aw_H) => Sat X 13 [.ref p0, .int x1, .int x2, .int x3, .int x4] [] h) Q p0 x1 x2 x3 x4 h) : Sat X 13 [.ref p0, .int x1, .int x2, .int x3, .int x4] [] h := by
  unfold sm_X1_turnedStates_13 at hh
  refine ow_iload C dX1_turnedStates_13 rfl ?_
  refine ow_iload_n C dX1_turnedStates_15 rfl rfl ?_
  refine ow_icmp_ge (tgt := 44) C dX1_turnedStates_16 (by decide) hh (fun hh => ?_) (fun hh => ?_)
  · skip
    refine ow_iload_n C dX1_turnedStates_44 rfl rfl ?_
    exact ow_iret Z dX1_turnedStates_45 trivial hh
  · skip
    refine ow_iload_n C dX1_turnedStates_19 rfl rfl ?_
    refine ow_aload_n C dX1_turnedStates_20 rfl rfl ?_
    refine ow_getR (ci := 1) (k := 0) (T := TX1) C rfl igX1 (by decide) kw_199 dX1_turnedStates_21 hh (fun q1 hh => ?_)
    refine ow_iload C dX1_turnedStates_24 rfl ?_
    refine ow_callV C (cv_X0_run _) (Nat.le_of_ble_eq_true rfl) kw_200 dX1_turnedStates_26 (as := [.int x4]) (st := [.int x2]) rfl rfl (Nat.le_of_ble_eq_true rfl) hh (fun r3 h2 hq => ?_)
    obtain ⟨v4, rfl, hh⟩ := sr_I_e hq
    show Sat X 29 [.ref p0, .int x1, .int x2, .int x3, .int x4] [.int v4, .int x2] h2
    refine ow_iload C dX1_turnedStates_29 rfl ?_
    refine ow_ixor C dX1_turnedStates_31 ?_
    refine ow_iload_n C dX1_turnedStates_32 rfl rfl ?_
    refine ow_ishr C dX1_turnedStates_33 ?_
    refine ow_iconst (v := 1) C dX1_turnedStates_34 rfl ?_
    refine ow_iand C dX1_turnedStates_35 ?_
    refine ow_iadd C dX1_turnedStates_36 ?_
    refine ow_istore_n (L' := [.ref p0, .int x1, .int (x2 + (((v4 ^^^ x4) >>> (x1 &&& 31)) &&& 1)), .int x3, .int x4]) C dX1_turnedStates_37 rfl (by decide) rfl ?_
    refine ow_iinc (v := x4 + 1) (L' := [.ref p0, .int x1, .int (x2 + (((v4 ^^^ x4) >>> (x1 &&& 31)) &&& 1)), .int x3, .int (x4 + 1)]) C dX1_turnedStates_38 rfl rfl (by decide) rfl ?_
    refine ow_goto (tgt := 13) C dX1_turnedStates_41 (by decide) ?_
    exact Sat.mask hh (mk_y (mk_y (mk_y (mk_y (mk_y mk_0)))))
def sm_X1_turnedStates_0 (K13 : Nat → Int32 → Int32 → Int32 → Int32 → aw_H → Prop) (Q : aw_R) (p0 : Nat) (x1 : Int32) (h : aw_H) : Prop :=
  sg_R h p0 1 0 fun q1 => sv_O h q1 0 (tr_X0_states [.ref q1] h fun r3 h2 => sr_I r3 fun v4 => K13 p0 x1 0 v4 0 h2)
set_option maxRecDepth 100000 in
set_option maxHeartbeats 4000000 in
theorem bl_X1_turnedStates_0 {X : aw_X} {Q : aw_R} (C : aw_C X cX1_turnedStates RX1 5 4) (Z : aw_Z X cX1_turnedStates (some .int) Q) (p0 : Nat) (x1 : Int32) (h : aw_H) (hh : sm_X1_turnedStates_0 (fun (p0 : Nat) (x1 : Int32) (x2 : Int32) (x3 : Int32) (x4 : Int32) (h : aw_H) => Sat X 13 [.ref p0, .int x1, .int x2, .int x3, .int x4] [] h) Q p0 x1 h) : Sat X 0 [.ref p0, .int x1, Value.null, Value.null, Value.null] [] h := by
  unfold sm_X1_turnedStates_0 at hh
  refine ow_iconst (v := 0) C dX1_turnedStates_0 rfl ?_
  refine ow_istore_n (L' := [.ref p0, .int x1, .int 0, Value.null, Value.null]) C dX1_turnedStates_1 rfl (by decide) rfl ?_
  refine ow_aload_n C dX1_turnedStates_2 rfl rfl ?_
  refine ow_getR (ci := 1) (k := 0) (T := TX1) C rfl igX1 (by decide) kw_199 dX1_turnedStates_3 hh (fun q1 hh => ?_)
  refine ow_callV C (cv_X0_states _) (Nat.le_of_ble_eq_true rfl) kw_201 dX1_turnedStates_6 (as := []) (st := []) rfl rfl (Nat.le_of_ble_eq_true rfl) hh (fun r3 h2 hq => ?_)
  obtain ⟨v4, rfl, hh⟩ := sr_I_e hq
  show Sat X 9 [.ref p0, .int x1, .int 0, Value.null, Value.null] [.int v4] h2
  refine ow_istore_n (L' := [.ref p0, .int x1, .int 0, .int v4, Value.null]) C dX1_turnedStates_9 rfl (by decide) rfl ?_
  refine ow_iconst (v := 0) C dX1_turnedStates_10 rfl ?_
  refine ow_istore (L' := [.ref p0, .int x1, .int 0, .int v4, .int 0]) C dX1_turnedStates_11 (by decide) rfl ?_
  exact Sat.mask hh (mk_y (mk_y (mk_y (mk_y (mk_y mk_0)))))
def tr_X1_turnedStates : aw_T := fun as h Q => ∃ (p0 : Nat) (x1 : Int32), as = [.ref p0, .int x1] ∧ (∀ (K13 : Nat → Int32 → Int32 → Int32 → Int32 → aw_H → Prop), (∀ (p0 : Nat) (x1 : Int32) (x2 : Int32) (x3 : Int32) (x4 : Int32) (h : aw_H), sm_X1_turnedStates_13 K13 Q p0 x1 x2 x3 x4 h → K13 p0 x1 x2 x3 x4 h) → sm_X1_turnedStates_0 K13 Q p0 x1 h)
theorem tq_X1_turnedStates {p0 : Nat} {x1 : Int32} {h : aw_H} {Q : aw_R} : tr_X1_turnedStates [.ref p0, .int x1] h Q ↔ (∀ (K13 : Nat → Int32 → Int32 → Int32 → Int32 → aw_H → Prop), (∀ (p0 : Nat) (x1 : Int32) (x2 : Int32) (x3 : Int32) (x4 : Int32) (h : aw_H), sm_X1_turnedStates_13 K13 Q p0 x1 x2 x3 x4 h → K13 p0 x1 x2 x3 x4 h) → sm_X1_turnedStates_0 K13 Q p0 x1 h) := by
  constructor
  · rintro ⟨_, _, as0, hh⟩
    cases as0
    exact hh
  · intro hh
    exact ⟨_, _, rfl, hh⟩
theorem ct_X1_turnedStates (E : aw_F) : CT E yX1_turnedStates cX1_turnedStates 5 (some .int) 4 tr_X1_turnedStates := by
  refine ct_of (by decide) ?_
  intro X Q as h hE C Z hG
  subst hE
  obtain ⟨p0, x1, rfl, hh⟩ := hG
  refine ⟨[.ref p0, .int x1, Value.null, Value.null, Value.null], rfl, Nat.le_of_ble_eq_true rfl, ?_⟩
  exact bl_X1_turnedStates_0 C Z p0 x1 h (hh (fun (p0 : Nat) (x1 : Int32) (x2 : Int32) (x3 : Int32) (x4 : Int32) (h : aw_H) => Sat X 13 [.ref p0, .int x1, .int x2, .int x3, .int x4] [] h) (fun p0 x1 x2 x3 x4 h hh => bl_X1_turnedStates_13 C Z p0 x1 x2 x3 x4 h hh))
theorem cv_X1_turnedStates (E : aw_F) : CV E yX1_turnedStates cX1_turnedStates 5 (some .int) 4 1 1 tr_X1_turnedStates := ⟨ct_X1_turnedStates E, by decide, kw_255, kw_256, kw_203, kw_254, by decide +kernel, _, _, rfl⟩
theorem dX1_spreadFrom_0 : decode cX1_spreadFrom 0 = .ok (.aload_n 0, 1) := by decide +kernel
theorem dX1_spreadFrom_1 : decode cX1_spreadFrom 1 = .ok (.getfield 22, 3) := by decide +kernel
theorem dX1_spreadFrom_4 : decode cX1_spreadFrom 4 = .ok (.iconst (-1), 1) := by decide +kernel
theorem dX1_spreadFrom_5 : decode cX1_spreadFrom 5 = .ok (.invokestatic 94, 3) := by decide +kernel
theorem dX1_spreadFrom_8 : decode cX1_spreadFrom 8 = .ok (.aload_n 0, 1) := by decide +kernel
theorem dX1_spreadFrom_9 : decode cX1_spreadFrom 9 = .ok (.getfield 22, 3) := by decide +kernel
theorem dX1_spreadFrom_12 : decode cX1_spreadFrom 12 = .ok (.iload_n 1, 1) := by decide +kernel
theorem dX1_spreadFrom_13 : decode cX1_spreadFrom 13 = .ok (.iconst 0, 1) := by decide +kernel
theorem dX1_spreadFrom_14 : decode cX1_spreadFrom 14 = .ok (.iastore, 1) := by decide +kernel
theorem dX1_spreadFrom_15 : decode cX1_spreadFrom 15 = .ok (.aload_n 0, 1) := by decide +kernel
theorem dX1_spreadFrom_16 : decode cX1_spreadFrom 16 = .ok (.getfield 25, 3) := by decide +kernel
theorem dX1_spreadFrom_19 : decode cX1_spreadFrom 19 = .ok (.iconst 0, 1) := by decide +kernel
theorem dX1_spreadFrom_20 : decode cX1_spreadFrom 20 = .ok (.iload_n 1, 1) := by decide +kernel
theorem dX1_spreadFrom_21 : decode cX1_spreadFrom 21 = .ok (.iastore, 1) := by decide +kernel
theorem dX1_spreadFrom_22 : decode cX1_spreadFrom 22 = .ok (.iconst 1, 1) := by decide +kernel
theorem dX1_spreadFrom_23 : decode cX1_spreadFrom 23 = .ok (.istore_n 2, 1) := by decide +kernel
theorem dX1_spreadFrom_24 : decode cX1_spreadFrom 24 = .ok (.iconst 0, 1) := by decide +kernel
theorem dX1_spreadFrom_25 : decode cX1_spreadFrom 25 = .ok (.istore_n 3, 1) := by decide +kernel
theorem dX1_spreadFrom_26 : decode cX1_spreadFrom 26 = .ok (.iload_n 3, 1) := by decide +kernel
theorem dX1_spreadFrom_27 : decode cX1_spreadFrom 27 = .ok (.iload_n 2, 1) := by decide +kernel
theorem dX1_spreadFrom_28 : decode cX1_spreadFrom 28 = .ok (.if_icmp .ge 104, 3) := by decide +kernel
theorem dX1_spreadFrom_31 : decode cX1_spreadFrom 31 = .ok (.iload_n 3, 1) := by decide +kernel
theorem dX1_spreadFrom_32 : decode cX1_spreadFrom 32 = .ok (.bipush 64, 2) := by decide +kernel
theorem dX1_spreadFrom_34 : decode cX1_spreadFrom 34 = .ok (.if_icmp .ge 98, 3) := by decide +kernel
theorem dX1_spreadFrom_37 : decode cX1_spreadFrom 37 = .ok (.aload_n 0, 1) := by decide +kernel
theorem dX1_spreadFrom_38 : decode cX1_spreadFrom 38 = .ok (.getfield 25, 3) := by decide +kernel
theorem dX1_spreadFrom_41 : decode cX1_spreadFrom 41 = .ok (.iload_n 3, 1) := by decide +kernel
theorem dX1_spreadFrom_42 : decode cX1_spreadFrom 42 = .ok (.iaload, 1) := by decide +kernel
theorem dX1_spreadFrom_43 : decode cX1_spreadFrom 43 = .ok (.istore 4, 2) := by decide +kernel
theorem dX1_spreadFrom_45 : decode cX1_spreadFrom 45 = .ok (.iconst 0, 1) := by decide +kernel
theorem dX1_spreadFrom_46 : decode cX1_spreadFrom 46 = .ok (.istore 5, 2) := by decide +kernel
theorem dX1_spreadFrom_48 : decode cX1_spreadFrom 48 = .ok (.iload 5, 2) := by decide +kernel
theorem dX1_spreadFrom_50 : decode cX1_spreadFrom 50 = .ok (.aload_n 0, 1) := by decide +kernel
theorem dX1_spreadFrom_51 : decode cX1_spreadFrom 51 = .ok (.getfield 12, 3) := by decide +kernel
theorem dX1_spreadFrom_54 : decode cX1_spreadFrom 54 = .ok (.getfield 72, 3) := by decide +kernel
theorem dX1_spreadFrom_57 : decode cX1_spreadFrom 57 = .ok (.if_icmp .ge 69, 3) := by decide +kernel
theorem dX1_spreadFrom_60 : decode cX1_spreadFrom 60 = .ok (.aload_n 0, 1) := by decide +kernel
theorem dX1_spreadFrom_61 : decode cX1_spreadFrom 61 = .ok (.getfield 12, 3) := by decide +kernel
theorem dX1_spreadFrom_64 : decode cX1_spreadFrom 64 = .ok (.getfield 75, 3) := by decide +kernel
theorem dX1_spreadFrom_67 : decode cX1_spreadFrom 67 = .ok (.iload 5, 2) := by decide +kernel
theorem dX1_spreadFrom_69 : decode cX1_spreadFrom 69 = .ok (.iaload, 1) := by decide +kernel
theorem dX1_spreadFrom_70 : decode cX1_spreadFrom 70 = .ok (.iload 4, 2) := by decide +kernel
theorem dX1_spreadFrom_72 : decode cX1_spreadFrom 72 = .ok (.invokestatic 78, 3) := by decide +kernel
theorem dX1_spreadFrom_75 : decode cX1_spreadFrom 75 = .ok (.istore 6, 2) := by decide +kernel
theorem dX1_spreadFrom_77 : decode cX1_spreadFrom 77 = .ok (.aload_n 0, 1) := by decide +kernel
theorem dX1_spreadFrom_78 : decode cX1_spreadFrom 78 = .ok (.getfield 22, 3) := by decide +kernel
theorem dX1_spreadFrom_81 : decode cX1_spreadFrom 81 = .ok (.iload 6, 2) := by decide +kernel
theorem dX1_spreadFrom_83 : decode cX1_spreadFrom 83 = .ok (.iaload, 1) := by decide +kernel
theorem dX1_spreadFrom_84 : decode cX1_spreadFrom 84 = .ok (.ifCond .ge 36, 3) := by decide +kernel
theorem dX1_spreadFrom_87 : decode cX1_spreadFrom 87 = .ok (.iload_n 2, 1) := by decide +kernel
theorem dX1_spreadFrom_88 : decode cX1_spreadFrom 88 = .ok (.bipush 64, 2) := by decide +kernel
theorem dX1_spreadFrom_90 : decode cX1_spreadFrom 90 = .ok (.if_icmp .ge 30, 3) := by decide +kernel
theorem dX1_spreadFrom_93 : decode cX1_spreadFrom 93 = .ok (.aload_n 0, 1) := by decide +kernel
theorem dX1_spreadFrom_94 : decode cX1_spreadFrom 94 = .ok (.getfield 22, 3) := by decide +kernel
theorem dX1_spreadFrom_97 : decode cX1_spreadFrom 97 = .ok (.iload 6, 2) := by decide +kernel
theorem dX1_spreadFrom_99 : decode cX1_spreadFrom 99 = .ok (.aload_n 0, 1) := by decide +kernel
theorem dX1_spreadFrom_100 : decode cX1_spreadFrom 100 = .ok (.getfield 22, 3) := by decide +kernel
theorem dX1_spreadFrom_103 : decode cX1_spreadFrom 103 = .ok (.iload 4, 2) := by decide +kernel
theorem dX1_spreadFrom_105 : decode cX1_spreadFrom 105 = .ok (.iaload, 1) := by decide +kernel
theorem dX1_spreadFrom_106 : decode cX1_spreadFrom 106 = .ok (.iconst 1, 1) := by decide +kernel
theorem dX1_spreadFrom_107 : decode cX1_spreadFrom 107 = .ok (.iadd, 1) := by decide +kernel
theorem dX1_spreadFrom_108 : decode cX1_spreadFrom 108 = .ok (.iastore, 1) := by decide +kernel
theorem dX1_spreadFrom_109 : decode cX1_spreadFrom 109 = .ok (.aload_n 0, 1) := by decide +kernel
theorem dX1_spreadFrom_110 : decode cX1_spreadFrom 110 = .ok (.getfield 25, 3) := by decide +kernel
theorem dX1_spreadFrom_113 : decode cX1_spreadFrom 113 = .ok (.iload_n 2, 1) := by decide +kernel
theorem dX1_spreadFrom_114 : decode cX1_spreadFrom 114 = .ok (.iload 6, 2) := by decide +kernel
theorem dX1_spreadFrom_116 : decode cX1_spreadFrom 116 = .ok (.iastore, 1) := by decide +kernel
theorem dX1_spreadFrom_117 : decode cX1_spreadFrom 117 = .ok (.iinc 2 1, 3) := by decide +kernel
theorem dX1_spreadFrom_120 : decode cX1_spreadFrom 120 = .ok (.iinc 5 1, 3) := by decide +kernel
theorem dX1_spreadFrom_123 : decode cX1_spreadFrom 123 = .ok (.goto (-75), 3) := by decide +kernel
theorem dX1_spreadFrom_126 : decode cX1_spreadFrom 126 = .ok (.iinc 3 1, 3) := by decide +kernel
theorem dX1_spreadFrom_129 : decode cX1_spreadFrom 129 = .ok (.goto (-103), 3) := by decide +kernel
theorem dX1_spreadFrom_132 : decode cX1_spreadFrom 132 = .ok (.iload_n 2, 1) := by decide +kernel
theorem dX1_spreadFrom_133 : decode cX1_spreadFrom 133 = .ok (.ireturn, 1) := by decide +kernel
def sm_X1_spreadFrom_48 (K26 : Nat → Int32 → Int32 → aw_H → Prop) (K48 : Nat → Int32 → Int32 → Int32 → Int32 → aw_H → Prop) (Q : aw_R) (p0 : Nat) (x2 : Int32) (x3 : Int32) (x4 : Int32) (x5 : Int32) (h : aw_H) : Prop :=
  sg_R h p0 1 0 fun q1 => sg_I h q1 0 1 fun v2 => if v2 ≤ x5 then (K26 p0 x2 (x3 + 1) h) else (sg_R h p0 1 0 fun q3 => sg_R h q3 0 2 fun q4 => sa_I h q4 x5 fun v5 => tr_X2_act [.int v5, .int x4] h fun r7 h6 => sr_I r7 fun v8 => sg_R h6 p0 1 2 fun q9 => sa_I h6 q9 v8 fun v10 => if 0 ≤ v10 then (K48 p0 x2 x3 x4 (x5 + 1) h6) else (if 64 ≤ x2 then (K48 p0 x2 x3 x4 (x5 + 1) h6) else (sg_R h6 p0 1 2 fun q11 => sg_R h6 p0 1 2 fun q12 => sa_I h6 q12 x4 fun v13 => ss_I h6 q11 v8 (v13 + 1) fun h14 => sg_R h14 p0 1 3 fun q15 => ss_I h14 q15 x2 v8 fun h16 => K48 p0 (x2 + 1) x3 x4 (x5 + 1) h16)))
set_option maxRecDepth 100000 in
set_option maxHeartbeats 4000000 in
theorem bl_X1_spreadFrom_48 {X : aw_X} {Q : aw_R} (C : aw_C X cX1_spreadFrom RX1 7 3) (Z : aw_Z X cX1_spreadFrom (some .int) Q) (p0 : Nat) (x2 : Int32) (x3 : Int32) (x4 : Int32) (x5 : Int32) (h : aw_H) (hh : sm_X1_spreadFrom_48 (fun (p0 : Nat) (x2 : Int32) (x3 : Int32) (h : aw_H) => Sat X 26 [.ref p0, Value.null, .int x2, .int x3, Value.null, Value.null, Value.null] [] h) (fun (p0 : Nat) (x2 : Int32) (x3 : Int32) (x4 : Int32) (x5 : Int32) (h : aw_H) => Sat X 48 [.ref p0, Value.null, .int x2, .int x3, .int x4, .int x5, Value.null] [] h) Q p0 x2 x3 x4 x5 h) : Sat X 48 [.ref p0, Value.null, .int x2, .int x3, .int x4, .int x5, Value.null] [] h := by
  unfold sm_X1_spreadFrom_48 at hh
  refine ow_iload C dX1_spreadFrom_48 rfl ?_
  refine ow_aload_n C dX1_spreadFrom_50 rfl rfl ?_
  refine ow_getR (ci := 1) (k := 0) (T := TX1) C rfl igX1 (by decide) kw_199 dX1_spreadFrom_51 hh (fun q1 hh => ?_)
  refine ow_getI (ci := 0) (k := 1) (T := TX0) C rfl igX0 (by decide) kw_233 dX1_spreadFrom_54 hh (fun v2 hh => ?_)
  refine ow_icmp_ge (tgt := 126) C dX1_spreadFrom_57 (by decide) hh (fun hh => ?_) (fun hh => ?_)
  · skip
    refine ow_iinc (v := x3 + 1) (L' := [.ref p0, Value.null, .int x2, .int (x3 + 1), .int x4, .int x5, Value.null]) C dX1_spreadFrom_126 rfl rfl (by decide) rfl ?_
    refine ow_goto (tgt := 26) C dX1_spreadFrom_129 (by decide) ?_
    exact Sat.mask hh (mk_y (mk_n (mk_y (mk_y (mk_n (mk_n (mk_n mk_0)))))))
  · skip
    refine ow_aload_n C dX1_spreadFrom_60 rfl rfl ?_
    refine ow_getR (ci := 1) (k := 0) (T := TX1) C rfl igX1 (by decide) kw_199 dX1_spreadFrom_61 hh (fun q3 hh => ?_)
    refine ow_getR (ci := 0) (k := 2) (T := TX0) C rfl igX0 (by decide) kw_231 dX1_spreadFrom_64 hh (fun q4 hh => ?_)
    refine ow_iload C dX1_spreadFrom_67 rfl ?_
    refine ow_iaload C dX1_spreadFrom_69 hh (fun v5 hh => ?_)
    refine ow_iload C dX1_spreadFrom_70 rfl ?_
    refine ow_callS C (cs_X2_act _) (Nat.le_of_ble_eq_true rfl) kw_232 dX1_spreadFrom_72 (as := [.int v5, .int x4]) (st := []) rfl rfl (Nat.le_of_ble_eq_true rfl) hh (fun r7 h6 hq => ?_)
    obtain ⟨v8, rfl, hh⟩ := sr_I_e hq
    show Sat X 75 [.ref p0, Value.null, .int x2, .int x3, .int x4, .int x5, Value.null] [.int v8] h6
    refine ow_istore (L' := [.ref p0, Value.null, .int x2, .int x3, .int x4, .int x5, .int v8]) C dX1_spreadFrom_75 (by decide) rfl ?_
    refine ow_aload_n C dX1_spreadFrom_77 rfl rfl ?_
    refine ow_getR (ci := 1) (k := 2) (T := TX1) C rfl igX1 (by decide) kw_241 dX1_spreadFrom_78 hh (fun q9 hh => ?_)
    refine ow_iload C dX1_spreadFrom_81 rfl ?_
    refine ow_iaload C dX1_spreadFrom_83 hh (fun v10 hh => ?_)
    refine ow_if_ge (tgt := 120) C dX1_spreadFrom_84 (by decide) hh (fun hh => ?_) (fun hh => ?_)
    · skip
      refine ow_iinc (v := x5 + 1) (L' := [.ref p0, Value.null, .int x2, .int x3, .int x4, .int (x5 + 1), .int v8]) C dX1_spreadFrom_120 rfl rfl (by decide) rfl ?_
      refine ow_goto (tgt := 48) C dX1_spreadFrom_123 (by decide) ?_
      exact Sat.mask hh (mk_y (mk_n (mk_y (mk_y (mk_y (mk_y (mk_n mk_0)))))))
    · skip
      refine ow_iload_n C dX1_spreadFrom_87 rfl rfl ?_
      refine ow_bipush (v := 64) C dX1_spreadFrom_88 rfl ?_
      refine ow_icmp_ge (tgt := 120) C dX1_spreadFrom_90 (by decide) hh (fun hh => ?_) (fun hh => ?_)
      · skip
        refine ow_iinc (v := x5 + 1) (L' := [.ref p0, Value.null, .int x2, .int x3, .int x4, .int (x5 + 1), .int v8]) C dX1_spreadFrom_120 rfl rfl (by decide) rfl ?_
        refine ow_goto (tgt := 48) C dX1_spreadFrom_123 (by decide) ?_
        exact Sat.mask hh (mk_y (mk_n (mk_y (mk_y (mk_y (mk_y (mk_n mk_0)))))))
      · skip
        refine ow_aload_n C dX1_spreadFrom_93 rfl rfl ?_
        refine ow_getR (ci := 1) (k := 2) (T := TX1) C rfl igX1 (by decide) kw_241 dX1_spreadFrom_94 hh (fun q11 hh => ?_)
        refine ow_iload C dX1_spreadFrom_97 rfl ?_
        refine ow_aload_n C dX1_spreadFrom_99 rfl rfl ?_
        refine ow_getR (ci := 1) (k := 2) (T := TX1) C rfl igX1 (by decide) kw_241 dX1_spreadFrom_100 hh (fun q12 hh => ?_)
        refine ow_iload C dX1_spreadFrom_103 rfl ?_
        refine ow_iaload C dX1_spreadFrom_105 hh (fun v13 hh => ?_)
        refine ow_iconst (v := 1) C dX1_spreadFrom_106 rfl ?_
        refine ow_iadd C dX1_spreadFrom_107 ?_
        refine ow_iastore C dX1_spreadFrom_108 hh (fun h14 hh => ?_)
        refine ow_aload_n C dX1_spreadFrom_109 rfl rfl ?_
        refine ow_getR (ci := 1) (k := 3) (T := TX1) C rfl igX1 (by decide) kw_257 dX1_spreadFrom_110 hh (fun q15 hh => ?_)
        refine ow_iload_n C dX1_spreadFrom_113 rfl rfl ?_
        refine ow_iload C dX1_spreadFrom_114 rfl ?_
        refine ow_iastore C dX1_spreadFrom_116 hh (fun h16 hh => ?_)
        refine ow_iinc (v := x2 + 1) (L' := [.ref p0, Value.null, .int (x2 + 1), .int x3, .int x4, .int x5, .int v8]) C dX1_spreadFrom_117 rfl rfl (by decide) rfl ?_
        refine ow_iinc (v := x5 + 1) (L' := [.ref p0, Value.null, .int (x2 + 1), .int x3, .int x4, .int (x5 + 1), .int v8]) C dX1_spreadFrom_120 rfl rfl (by decide) rfl ?_
        refine ow_goto (tgt := 48) C dX1_spreadFrom_123 (by decide) ?_
        exact Sat.mask hh (mk_y (mk_n (mk_y (mk_y (mk_y (mk_y (mk_n mk_0)))))))
def sm_X1_spreadFrom_26 (K26 : Nat → Int32 → Int32 → aw_H → Prop) (K48 : Nat → Int32 → Int32 → Int32 → Int32 → aw_H → Prop) (Q : aw_R) (p0 : Nat) (x2 : Int32) (x3 : Int32) (h : aw_H) : Prop :=
  if x2 ≤ x3 then (Q (some (.int x2)) h) else (if 64 ≤ x3 then (Q (some (.int x2)) h) else (sg_R h p0 1 3 fun q1 => sa_I h q1 x3 fun v2 => K48 p0 x2 x3 v2 0 h))
set_option maxRecDepth 100000 in
set_option maxHeartbeats 4000000 in
theorem bl_X1_spreadFrom_26 {X : aw_X} {Q : aw_R} (C : aw_C X cX1_spreadFrom RX1 7 3) (Z : aw_Z X cX1_spreadFrom (some .int) Q) (p0 : Nat) (x2 : Int32) (x3 : Int32) (h : aw_H) (hh : sm_X1_spreadFrom_26 (fun (p0 : Nat) (x2 : Int32) (x3 : Int32) (h : aw_H) => Sat X 26 [.ref p0, Value.null, .int x2, .int x3, Value.null, Value.null, Value.null] [] h) (fun (p0 : Nat) (x2 : Int32) (x3 : Int32) (x4 : Int32) (x5 : Int32) (h : aw_H) => Sat X 48 [.ref p0, Value.null, .int x2, .int x3, .int x4, .int x5, Value.null] [] h) Q p0 x2 x3 h) : Sat X 26 [.ref p0, Value.null, .int x2, .int x3, Value.null, Value.null, Value.null] [] h := by
  unfold sm_X1_spreadFrom_26 at hh
  refine ow_iload_n C dX1_spreadFrom_26 rfl rfl ?_
  refine ow_iload_n C dX1_spreadFrom_27 rfl rfl ?_
  refine ow_icmp_ge (tgt := 132) C dX1_spreadFrom_28 (by decide) hh (fun hh => ?_) (fun hh => ?_)
  · skip
    refine ow_iload_n C dX1_spreadFrom_132 rfl rfl ?_
    exact ow_iret Z dX1_spreadFrom_133 trivial hh
  · skip
    refine ow_iload_n C dX1_spreadFrom_31 rfl rfl ?_
    refine ow_bipush (v := 64) C dX1_spreadFrom_32 rfl ?_
    refine ow_icmp_ge (tgt := 132) C dX1_spreadFrom_34 (by decide) hh (fun hh => ?_) (fun hh => ?_)
    · skip
      refine ow_iload_n C dX1_spreadFrom_132 rfl rfl ?_
      exact ow_iret Z dX1_spreadFrom_133 trivial hh
    · skip
      refine ow_aload_n C dX1_spreadFrom_37 rfl rfl ?_
      refine ow_getR (ci := 1) (k := 3) (T := TX1) C rfl igX1 (by decide) kw_257 dX1_spreadFrom_38 hh (fun q1 hh => ?_)
      refine ow_iload_n C dX1_spreadFrom_41 rfl rfl ?_
      refine ow_iaload C dX1_spreadFrom_42 hh (fun v2 hh => ?_)
      refine ow_istore (L' := [.ref p0, Value.null, .int x2, .int x3, .int v2, Value.null, Value.null]) C dX1_spreadFrom_43 (by decide) rfl ?_
      refine ow_iconst (v := 0) C dX1_spreadFrom_45 rfl ?_
      refine ow_istore (L' := [.ref p0, Value.null, .int x2, .int x3, .int v2, .int 0, Value.null]) C dX1_spreadFrom_46 (by decide) rfl ?_
      exact Sat.mask hh (mk_y (mk_n (mk_y (mk_y (mk_y (mk_y (mk_n mk_0)))))))
def sm_X1_spreadFrom_0 (K26 : Nat → Int32 → Int32 → aw_H → Prop) (K48 : Nat → Int32 → Int32 → Int32 → Int32 → aw_H → Prop) (Q : aw_R) (p0 : Nat) (x1 : Int32) (h : aw_H) : Prop :=
  sg_R h p0 1 2 fun q1 => tr_J7_fill_53178 [.ref q1, .int ((-1))] h fun r3 h2 => sr_V r3 <| sg_R h2 p0 1 2 fun q4 => ss_I h2 q4 x1 0 fun h5 => sg_R h5 p0 1 3 fun q6 => ss_I h5 q6 0 x1 fun h7 => K26 p0 1 0 h7
set_option maxRecDepth 100000 in
set_option maxHeartbeats 4000000 in
theorem bl_X1_spreadFrom_0 {X : aw_X} {Q : aw_R} (C : aw_C X cX1_spreadFrom RX1 7 3) (Z : aw_Z X cX1_spreadFrom (some .int) Q) (p0 : Nat) (x1 : Int32) (h : aw_H) (hh : sm_X1_spreadFrom_0 (fun (p0 : Nat) (x2 : Int32) (x3 : Int32) (h : aw_H) => Sat X 26 [.ref p0, Value.null, .int x2, .int x3, Value.null, Value.null, Value.null] [] h) (fun (p0 : Nat) (x2 : Int32) (x3 : Int32) (x4 : Int32) (x5 : Int32) (h : aw_H) => Sat X 48 [.ref p0, Value.null, .int x2, .int x3, .int x4, .int x5, Value.null] [] h) Q p0 x1 h) : Sat X 0 [.ref p0, .int x1, Value.null, Value.null, Value.null, Value.null, Value.null] [] h := by
  unfold sm_X1_spreadFrom_0 at hh
  refine ow_aload_n C dX1_spreadFrom_0 rfl rfl ?_
  refine ow_getR (ci := 1) (k := 2) (T := TX1) C rfl igX1 (by decide) kw_241 dX1_spreadFrom_1 hh (fun q1 hh => ?_)
  refine ow_iconst (v := (-1)) C dX1_spreadFrom_4 rfl ?_
  refine ow_callS C (cs_J7_fill_53178 _) (Nat.le_of_ble_eq_true rfl) kw_258 dX1_spreadFrom_5 (as := [.ref q1, .int ((-1))]) (st := []) rfl rfl (Nat.le_of_ble_eq_true rfl) hh (fun r3 h2 hq => ?_)
  obtain ⟨rfl, hh⟩ := sr_V_e hq
  show Sat X 8 [.ref p0, .int x1, Value.null, Value.null, Value.null, Value.null, Value.null] [] h2
  refine ow_aload_n C dX1_spreadFrom_8 rfl rfl ?_
  refine ow_getR (ci := 1) (k := 2) (T := TX1) C rfl igX1 (by decide) kw_241 dX1_spreadFrom_9 hh (fun q4 hh => ?_)
  refine ow_iload_n C dX1_spreadFrom_12 rfl rfl ?_
  refine ow_iconst (v := 0) C dX1_spreadFrom_13 rfl ?_
  refine ow_iastore C dX1_spreadFrom_14 hh (fun h5 hh => ?_)
  refine ow_aload_n C dX1_spreadFrom_15 rfl rfl ?_
  refine ow_getR (ci := 1) (k := 3) (T := TX1) C rfl igX1 (by decide) kw_257 dX1_spreadFrom_16 hh (fun q6 hh => ?_)
  refine ow_iconst (v := 0) C dX1_spreadFrom_19 rfl ?_
  refine ow_iload_n C dX1_spreadFrom_20 rfl rfl ?_
  refine ow_iastore C dX1_spreadFrom_21 hh (fun h7 hh => ?_)
  refine ow_iconst (v := 1) C dX1_spreadFrom_22 rfl ?_
  refine ow_istore_n (L' := [.ref p0, .int x1, .int 1, Value.null, Value.null, Value.null, Value.null]) C dX1_spreadFrom_23 rfl (by decide) rfl ?_
  refine ow_iconst (v := 0) C dX1_spreadFrom_24 rfl ?_
  refine ow_istore_n (L' := [.ref p0, .int x1, .int 1, .int 0, Value.null, Value.null, Value.null]) C dX1_spreadFrom_25 rfl (by decide) rfl ?_
  exact Sat.mask hh (mk_y (mk_n (mk_y (mk_y (mk_n (mk_n (mk_n mk_0)))))))
def tr_X1_spreadFrom : aw_T := fun as h Q => ∃ (p0 : Nat) (x1 : Int32), as = [.ref p0, .int x1] ∧ (∀ (K26 : Nat → Int32 → Int32 → aw_H → Prop) (K48 : Nat → Int32 → Int32 → Int32 → Int32 → aw_H → Prop), (∀ (p0 : Nat) (x2 : Int32) (x3 : Int32) (h : aw_H), sm_X1_spreadFrom_26 K26 K48 Q p0 x2 x3 h → K26 p0 x2 x3 h) → (∀ (p0 : Nat) (x2 : Int32) (x3 : Int32) (x4 : Int32) (x5 : Int32) (h : aw_H), sm_X1_spreadFrom_48 K26 K48 Q p0 x2 x3 x4 x5 h → K48 p0 x2 x3 x4 x5 h) → sm_X1_spreadFrom_0 K26 K48 Q p0 x1 h)
theorem tq_X1_spreadFrom {p0 : Nat} {x1 : Int32} {h : aw_H} {Q : aw_R} : tr_X1_spreadFrom [.ref p0, .int x1] h Q ↔ (∀ (K26 : Nat → Int32 → Int32 → aw_H → Prop) (K48 : Nat → Int32 → Int32 → Int32 → Int32 → aw_H → Prop), (∀ (p0 : Nat) (x2 : Int32) (x3 : Int32) (h : aw_H), sm_X1_spreadFrom_26 K26 K48 Q p0 x2 x3 h → K26 p0 x2 x3 h) → (∀ (p0 : Nat) (x2 : Int32) (x3 : Int32) (x4 : Int32) (x5 : Int32) (h : aw_H), sm_X1_spreadFrom_48 K26 K48 Q p0 x2 x3 x4 x5 h → K48 p0 x2 x3 x4 x5 h) → sm_X1_spreadFrom_0 K26 K48 Q p0 x1 h) := by
  constructor
  · rintro ⟨_, _, as0, hh⟩
    cases as0
    exact hh
  · intro hh
    exact ⟨_, _, rfl, hh⟩
theorem ct_X1_spreadFrom (E : aw_F) : CT E yX1_spreadFrom cX1_spreadFrom 7 (some .int) 3 tr_X1_spreadFrom := by
  refine ct_of (by decide) ?_
  intro X Q as h hE C Z hG
  subst hE
  obtain ⟨p0, x1, rfl, hh⟩ := hG
  refine ⟨[.ref p0, .int x1, Value.null, Value.null, Value.null, Value.null, Value.null], rfl, Nat.le_of_ble_eq_true rfl, ?_⟩
  exact bl_X1_spreadFrom_0 C Z p0 x1 h (hh (fun (p0 : Nat) (x2 : Int32) (x3 : Int32) (h : aw_H) => Sat X 26 [.ref p0, Value.null, .int x2, .int x3, Value.null, Value.null, Value.null] [] h) (fun (p0 : Nat) (x2 : Int32) (x3 : Int32) (x4 : Int32) (x5 : Int32) (h : aw_H) => Sat X 48 [.ref p0, Value.null, .int x2, .int x3, .int x4, .int x5, Value.null] [] h) (fun p0 x2 x3 h hh => bl_X1_spreadFrom_26 C Z p0 x2 x3 h hh) (fun p0 x2 x3 x4 x5 h hh => bl_X1_spreadFrom_48 C Z p0 x2 x3 x4 x5 h hh))
theorem cv_X1_spreadFrom (E : aw_F) : CV E yX1_spreadFrom cX1_spreadFrom 7 (some .int) 3 1 1 tr_X1_spreadFrom := ⟨ct_X1_spreadFrom E, by decide, kw_260, kw_261, kw_203, kw_259, by decide +kernel, _, _, rfl⟩
theorem dX1_wayLength_0 : decode cX1_wayLength 0 = .ok (.aload_n 0, 1) := by decide +kernel
theorem dX1_wayLength_1 : decode cX1_wayLength 1 = .ok (.iload_n 2, 1) := by decide +kernel
theorem dX1_wayLength_2 : decode cX1_wayLength 2 = .ok (.invokevirtual 100, 3) := by decide +kernel
theorem dX1_wayLength_5 : decode cX1_wayLength 5 = .ok (.pop, 1) := by decide +kernel
theorem dX1_wayLength_6 : decode cX1_wayLength 6 = .ok (.aload_n 0, 1) := by decide +kernel
theorem dX1_wayLength_7 : decode cX1_wayLength 7 = .ok (.getfield 22, 3) := by decide +kernel
theorem dX1_wayLength_10 : decode cX1_wayLength 10 = .ok (.iload_n 1, 1) := by decide +kernel
theorem dX1_wayLength_11 : decode cX1_wayLength 11 = .ok (.iaload, 1) := by decide +kernel
theorem dX1_wayLength_12 : decode cX1_wayLength 12 = .ok (.ifCond .ge 8, 3) := by decide +kernel
theorem dX1_wayLength_15 : decode cX1_wayLength 15 = .ok (.bipush (-4), 2) := by decide +kernel
theorem dX1_wayLength_17 : decode cX1_wayLength 17 = .ok (.goto 9, 3) := by decide +kernel
theorem dX1_wayLength_20 : decode cX1_wayLength 20 = .ok (.aload_n 0, 1) := by decide +kernel
theorem dX1_wayLength_21 : decode cX1_wayLength 21 = .ok (.getfield 22, 3) := by decide +kernel
theorem dX1_wayLength_24 : decode cX1_wayLength 24 = .ok (.iload_n 1, 1) := by decide +kernel
theorem dX1_wayLength_25 : decode cX1_wayLength 25 = .ok (.iaload, 1) := by decide +kernel
theorem dX1_wayLength_26 : decode cX1_wayLength 26 = .ok (.ireturn, 1) := by decide +kernel
def sm_X1_wayLength_0  (Q : aw_R) (p0 : Nat) (x1 : Int32) (x2 : Int32) (h : aw_H) : Prop :=
  sv_O h p0 1 (tr_X1_spreadFrom [.ref p0, .int x2] h fun r2 h1 => sr_I r2 fun v3 => sg_R h1 p0 1 2 fun q4 => sa_I h1 q4 x1 fun v5 => if 0 ≤ v5 then (sg_R h1 p0 1 2 fun q6 => sa_I h1 q6 x1 fun v7 => Q (some (.int v7)) h1) else (Q (some (.int ((-4)))) h1))
set_option maxRecDepth 100000 in
set_option maxHeartbeats 4000000 in
theorem bl_X1_wayLength_0 {X : aw_X} {Q : aw_R} (C : aw_C X cX1_wayLength RX1 3 4) (Z : aw_Z X cX1_wayLength (some .int) Q) (p0 : Nat) (x1 : Int32) (x2 : Int32) (h : aw_H) (hh : sm_X1_wayLength_0  Q p0 x1 x2 h) : Sat X 0 [.ref p0, .int x1, .int x2] [] h := by
  unfold sm_X1_wayLength_0 at hh
  refine ow_aload_n C dX1_wayLength_0 rfl rfl ?_
  refine ow_iload_n C dX1_wayLength_1 rfl rfl ?_
  refine ow_callV C (cv_X1_spreadFrom _) (Nat.le_of_ble_eq_true rfl) kw_262 dX1_wayLength_2 (as := [.int x2]) (st := []) rfl rfl (Nat.le_of_ble_eq_true rfl) hh (fun r2 h1 hq => ?_)
  obtain ⟨v3, rfl, hh⟩ := sr_I_e hq
  show Sat X 5 [.ref p0, .int x1, .int x2] [.int v3] h1
  refine ow_pop C dX1_wayLength_5 rfl ?_
  refine ow_aload_n C dX1_wayLength_6 rfl rfl ?_
  refine ow_getR (ci := 1) (k := 2) (T := TX1) C rfl igX1 (by decide) kw_241 dX1_wayLength_7 hh (fun q4 hh => ?_)
  refine ow_iload_n C dX1_wayLength_10 rfl rfl ?_
  refine ow_iaload C dX1_wayLength_11 hh (fun v5 hh => ?_)
  refine ow_if_ge (tgt := 20) C dX1_wayLength_12 (by decide) hh (fun hh => ?_) (fun hh => ?_)
  · skip
    refine ow_aload_n C dX1_wayLength_20 rfl rfl ?_
    refine ow_getR (ci := 1) (k := 2) (T := TX1) C rfl igX1 (by decide) kw_241 dX1_wayLength_21 hh (fun q6 hh => ?_)
    refine ow_iload_n C dX1_wayLength_24 rfl rfl ?_
    refine ow_iaload C dX1_wayLength_25 hh (fun v7 hh => ?_)
    exact ow_iret Z dX1_wayLength_26 trivial hh
  · skip
    refine ow_bipush (v := (-4)) C dX1_wayLength_15 rfl ?_
    refine ow_goto (tgt := 26) C dX1_wayLength_17 (by decide) ?_
    exact ow_iret Z dX1_wayLength_26 trivial hh
def tr_X1_wayLength : aw_T := fun as h Q => ∃ (p0 : Nat) (x1 : Int32) (x2 : Int32), as = [.ref p0, .int x1, .int x2] ∧ (sm_X1_wayLength_0  Q p0 x1 x2 h)
theorem tq_X1_wayLength {p0 : Nat} {x1 : Int32} {x2 : Int32} {h : aw_H} {Q : aw_R} : tr_X1_wayLength [.ref p0, .int x1, .int x2] h Q ↔ (sm_X1_wayLength_0  Q p0 x1 x2 h) := by
  constructor
  · rintro ⟨_, _, _, as0, hh⟩
    cases as0
    exact hh
  · intro hh
    exact ⟨_, _, _, rfl, hh⟩
theorem ct_X1_wayLength (E : aw_F) : CT E yX1_wayLength cX1_wayLength 3 (some .int) 4 tr_X1_wayLength := by
  refine ct_of (by decide) ?_
  intro X Q as h hE C Z hG
  subst hE
  obtain ⟨p0, x1, x2, rfl, hh⟩ := hG
  refine ⟨[.ref p0, .int x1, .int x2], rfl, Nat.le_of_ble_eq_true rfl, ?_⟩
  exact bl_X1_wayLength_0 C Z p0 x1 x2 h hh
theorem cv_X1_wayLength (E : aw_F) : CV E yX1_wayLength cX1_wayLength 3 (some .int) 4 2 1 tr_X1_wayLength := ⟨ct_X1_wayLength E, by decide, kw_264, kw_265, kw_203, kw_263, by decide +kernel, _, _, rfl⟩
theorem dX1_nearerGate_0 : decode cX1_nearerGate 0 = .ok (.iconst 0, 1) := by decide +kernel
theorem dX1_nearerGate_1 : decode cX1_nearerGate 1 = .ok (.istore_n 2, 1) := by decide +kernel
theorem dX1_nearerGate_2 : decode cX1_nearerGate 2 = .ok (.iload_n 2, 1) := by decide +kernel
theorem dX1_nearerGate_3 : decode cX1_nearerGate 3 = .ok (.aload_n 0, 1) := by decide +kernel
theorem dX1_nearerGate_4 : decode cX1_nearerGate 4 = .ok (.getfield 12, 3) := by decide +kernel
theorem dX1_nearerGate_7 : decode cX1_nearerGate 7 = .ok (.getfield 72, 3) := by decide +kernel
theorem dX1_nearerGate_10 : decode cX1_nearerGate 10 = .ok (.if_icmp .ge 40, 3) := by decide +kernel
theorem dX1_nearerGate_13 : decode cX1_nearerGate 13 = .ok (.aload_n 0, 1) := by decide +kernel
theorem dX1_nearerGate_14 : decode cX1_nearerGate 14 = .ok (.getfield 22, 3) := by decide +kernel
theorem dX1_nearerGate_17 : decode cX1_nearerGate 17 = .ok (.aload_n 0, 1) := by decide +kernel
theorem dX1_nearerGate_18 : decode cX1_nearerGate 18 = .ok (.getfield 12, 3) := by decide +kernel
theorem dX1_nearerGate_21 : decode cX1_nearerGate 21 = .ok (.getfield 75, 3) := by decide +kernel
theorem dX1_nearerGate_24 : decode cX1_nearerGate 24 = .ok (.iload_n 2, 1) := by decide +kernel
theorem dX1_nearerGate_25 : decode cX1_nearerGate 25 = .ok (.iaload, 1) := by decide +kernel
theorem dX1_nearerGate_26 : decode cX1_nearerGate 26 = .ok (.iload_n 1, 1) := by decide +kernel
theorem dX1_nearerGate_27 : decode cX1_nearerGate 27 = .ok (.invokestatic 78, 3) := by decide +kernel
theorem dX1_nearerGate_30 : decode cX1_nearerGate 30 = .ok (.iaload, 1) := by decide +kernel
theorem dX1_nearerGate_31 : decode cX1_nearerGate 31 = .ok (.aload_n 0, 1) := by decide +kernel
theorem dX1_nearerGate_32 : decode cX1_nearerGate 32 = .ok (.getfield 22, 3) := by decide +kernel
theorem dX1_nearerGate_35 : decode cX1_nearerGate 35 = .ok (.iload_n 1, 1) := by decide +kernel
theorem dX1_nearerGate_36 : decode cX1_nearerGate 36 = .ok (.iaload, 1) := by decide +kernel
theorem dX1_nearerGate_37 : decode cX1_nearerGate 37 = .ok (.iconst 1, 1) := by decide +kernel
theorem dX1_nearerGate_38 : decode cX1_nearerGate 38 = .ok (.isub, 1) := by decide +kernel
theorem dX1_nearerGate_39 : decode cX1_nearerGate 39 = .ok (.if_icmp .ne 5, 3) := by decide +kernel
theorem dX1_nearerGate_42 : decode cX1_nearerGate 42 = .ok (.iload_n 2, 1) := by decide +kernel
theorem dX1_nearerGate_43 : decode cX1_nearerGate 43 = .ok (.ireturn, 1) := by decide +kernel
theorem dX1_nearerGate_44 : decode cX1_nearerGate 44 = .ok (.iinc 2 1, 3) := by decide +kernel
theorem dX1_nearerGate_47 : decode cX1_nearerGate 47 = .ok (.goto (-45), 3) := by decide +kernel
theorem dX1_nearerGate_50 : decode cX1_nearerGate 50 = .ok (.iconst 0, 1) := by decide +kernel
theorem dX1_nearerGate_51 : decode cX1_nearerGate 51 = .ok (.ireturn, 1) := by decide +kernel
def sm_X1_nearerGate_2 (K2 : Nat → Int32 → Int32 → aw_H → Prop) (Q : aw_R) (p0 : Nat) (x1 : Int32) (x2 : Int32) (h : aw_H) : Prop :=
  sg_R h p0 1 0 fun q1 => sg_I h q1 0 1 fun v2 => if v2 ≤ x2 then (Q (some (.int 0)) h) else (sg_R h p0 1 2 fun q3 => sg_R h p0 1 0 fun q4 => sg_R h q4 0 2 fun q5 => sa_I h q5 x2 fun v6 => tr_X2_act [.int v6, .int x1] h fun r8 h7 => sr_I r8 fun v9 => sa_I h7 q3 v9 fun v10 => sg_R h7 p0 1 2 fun q11 => sa_I h7 q11 x1 fun v12 => if ¬ v10 = (v12 - 1) then (K2 p0 x1 (x2 + 1) h7) else (Q (some (.int x2)) h7))
set_option maxRecDepth 100000 in
set_option maxHeartbeats 4000000 in
theorem bl_X1_nearerGate_2 {X : aw_X} {Q : aw_R} (C : aw_C X cX1_nearerGate RX1 3 3) (Z : aw_Z X cX1_nearerGate (some .int) Q) (p0 : Nat) (x1 : Int32) (x2 : Int32) (h : aw_H) (hh : sm_X1_nearerGate_2 (fun (p0 : Nat) (x1 : Int32) (x2 : Int32) (h : aw_H) => Sat X 2 [.ref p0, .int x1, .int x2] [] h) Q p0 x1 x2 h) : Sat X 2 [.ref p0, .int x1, .int x2] [] h := by
  unfold sm_X1_nearerGate_2 at hh
  refine ow_iload_n C dX1_nearerGate_2 rfl rfl ?_
  refine ow_aload_n C dX1_nearerGate_3 rfl rfl ?_
  refine ow_getR (ci := 1) (k := 0) (T := TX1) C rfl igX1 (by decide) kw_199 dX1_nearerGate_4 hh (fun q1 hh => ?_)
  refine ow_getI (ci := 0) (k := 1) (T := TX0) C rfl igX0 (by decide) kw_233 dX1_nearerGate_7 hh (fun v2 hh => ?_)
  refine ow_icmp_ge (tgt := 50) C dX1_nearerGate_10 (by decide) hh (fun hh => ?_) (fun hh => ?_)
  · skip
    refine ow_iconst (v := 0) C dX1_nearerGate_50 rfl ?_
    exact ow_iret Z dX1_nearerGate_51 trivial hh
  · skip
    refine ow_aload_n C dX1_nearerGate_13 rfl rfl ?_
    refine ow_getR (ci := 1) (k := 2) (T := TX1) C rfl igX1 (by decide) kw_241 dX1_nearerGate_14 hh (fun q3 hh => ?_)
    refine ow_aload_n C dX1_nearerGate_17 rfl rfl ?_
    refine ow_getR (ci := 1) (k := 0) (T := TX1) C rfl igX1 (by decide) kw_199 dX1_nearerGate_18 hh (fun q4 hh => ?_)
    refine ow_getR (ci := 0) (k := 2) (T := TX0) C rfl igX0 (by decide) kw_231 dX1_nearerGate_21 hh (fun q5 hh => ?_)
    refine ow_iload_n C dX1_nearerGate_24 rfl rfl ?_
    refine ow_iaload C dX1_nearerGate_25 hh (fun v6 hh => ?_)
    refine ow_iload_n C dX1_nearerGate_26 rfl rfl ?_
    refine ow_callS C (cs_X2_act _) (Nat.le_of_ble_eq_true rfl) kw_232 dX1_nearerGate_27 (as := [.int v6, .int x1]) (st := [.ref q3]) rfl rfl (Nat.le_of_ble_eq_true rfl) hh (fun r8 h7 hq => ?_)
    obtain ⟨v9, rfl, hh⟩ := sr_I_e hq
    show Sat X 30 [.ref p0, .int x1, .int x2] [.int v9, .ref q3] h7
    refine ow_iaload C dX1_nearerGate_30 hh (fun v10 hh => ?_)
    refine ow_aload_n C dX1_nearerGate_31 rfl rfl ?_
    refine ow_getR (ci := 1) (k := 2) (T := TX1) C rfl igX1 (by decide) kw_241 dX1_nearerGate_32 hh (fun q11 hh => ?_)
    refine ow_iload_n C dX1_nearerGate_35 rfl rfl ?_
    refine ow_iaload C dX1_nearerGate_36 hh (fun v12 hh => ?_)
    refine ow_iconst (v := 1) C dX1_nearerGate_37 rfl ?_
    refine ow_isub C dX1_nearerGate_38 ?_
    refine ow_icmp_ne (tgt := 44) C dX1_nearerGate_39 (by decide) hh (fun hh => ?_) (fun hh => ?_)
    · skip
      refine ow_iinc (v := x2 + 1) (L' := [.ref p0, .int x1, .int (x2 + 1)]) C dX1_nearerGate_44 rfl rfl (by decide) rfl ?_
      refine ow_goto (tgt := 2) C dX1_nearerGate_47 (by decide) ?_
      exact Sat.mask hh (mk_y (mk_y (mk_y mk_0)))
    · skip
      refine ow_iload_n C dX1_nearerGate_42 rfl rfl ?_
      exact ow_iret Z dX1_nearerGate_43 trivial hh
def sm_X1_nearerGate_0 (K2 : Nat → Int32 → Int32 → aw_H → Prop) (Q : aw_R) (p0 : Nat) (x1 : Int32) (h : aw_H) : Prop :=
  K2 p0 x1 0 h
set_option maxRecDepth 100000 in
set_option maxHeartbeats 4000000 in
theorem bl_X1_nearerGate_0 {X : aw_X} {Q : aw_R} (C : aw_C X cX1_nearerGate RX1 3 3) (Z : aw_Z X cX1_nearerGate (some .int) Q) (p0 : Nat) (x1 : Int32) (h : aw_H) (hh : sm_X1_nearerGate_0 (fun (p0 : Nat) (x1 : Int32) (x2 : Int32) (h : aw_H) => Sat X 2 [.ref p0, .int x1, .int x2] [] h) Q p0 x1 h) : Sat X 0 [.ref p0, .int x1, Value.null] [] h := by
  unfold sm_X1_nearerGate_0 at hh
  refine ow_iconst (v := 0) C dX1_nearerGate_0 rfl ?_
  refine ow_istore_n (L' := [.ref p0, .int x1, .int 0]) C dX1_nearerGate_1 rfl (by decide) rfl ?_
  exact Sat.mask hh (mk_y (mk_y (mk_y mk_0)))
def tr_X1_nearerGate : aw_T := fun as h Q => ∃ (p0 : Nat) (x1 : Int32), as = [.ref p0, .int x1] ∧ (∀ (K2 : Nat → Int32 → Int32 → aw_H → Prop), (∀ (p0 : Nat) (x1 : Int32) (x2 : Int32) (h : aw_H), sm_X1_nearerGate_2 K2 Q p0 x1 x2 h → K2 p0 x1 x2 h) → sm_X1_nearerGate_0 K2 Q p0 x1 h)
theorem tq_X1_nearerGate {p0 : Nat} {x1 : Int32} {h : aw_H} {Q : aw_R} : tr_X1_nearerGate [.ref p0, .int x1] h Q ↔ (∀ (K2 : Nat → Int32 → Int32 → aw_H → Prop), (∀ (p0 : Nat) (x1 : Int32) (x2 : Int32) (h : aw_H), sm_X1_nearerGate_2 K2 Q p0 x1 x2 h → K2 p0 x1 x2 h) → sm_X1_nearerGate_0 K2 Q p0 x1 h) := by
  constructor
  · rintro ⟨_, _, as0, hh⟩
    cases as0
    exact hh
  · intro hh
    exact ⟨_, _, rfl, hh⟩
theorem ct_X1_nearerGate (E : aw_F) : CT E yX1_nearerGate cX1_nearerGate 3 (some .int) 3 tr_X1_nearerGate := by
  refine ct_of (by decide) ?_
  intro X Q as h hE C Z hG
  subst hE
  obtain ⟨p0, x1, rfl, hh⟩ := hG
  refine ⟨[.ref p0, .int x1, Value.null], rfl, Nat.le_of_ble_eq_true rfl, ?_⟩
  exact bl_X1_nearerGate_0 C Z p0 x1 h (hh (fun (p0 : Nat) (x1 : Int32) (x2 : Int32) (h : aw_H) => Sat X 2 [.ref p0, .int x1, .int x2] [] h) (fun p0 x1 x2 h hh => bl_X1_nearerGate_2 C Z p0 x1 x2 h hh))
theorem cv_X1_nearerGate (E : aw_F) : CV E yX1_nearerGate cX1_nearerGate 3 (some .int) 3 1 1 tr_X1_nearerGate := ⟨ct_X1_nearerGate E, by decide, kw_267, kw_268, kw_203, kw_266, by decide +kernel, _, _, rfl⟩
theorem dX1_wayGate_0 : decode cX1_wayGate 0 = .ok (.iload_n 3, 1) := by decide +kernel
theorem dX1_wayGate_1 : decode cX1_wayGate 1 = .ok (.aload_n 0, 1) := by decide +kernel
theorem dX1_wayGate_2 : decode cX1_wayGate 2 = .ok (.iload_n 1, 1) := by decide +kernel
theorem dX1_wayGate_3 : decode cX1_wayGate 3 = .ok (.iload_n 2, 1) := by decide +kernel
theorem dX1_wayGate_4 : decode cX1_wayGate 4 = .ok (.invokevirtual 103, 3) := by decide +kernel
theorem dX1_wayGate_7 : decode cX1_wayGate 7 = .ok (.if_icmp .lt 6, 3) := by decide +kernel
theorem dX1_wayGate_10 : decode cX1_wayGate 10 = .ok (.bipush (-4), 2) := by decide +kernel
theorem dX1_wayGate_12 : decode cX1_wayGate 12 = .ok (.ireturn, 1) := by decide +kernel
theorem dX1_wayGate_13 : decode cX1_wayGate 13 = .ok (.iload_n 1, 1) := by decide +kernel
theorem dX1_wayGate_14 : decode cX1_wayGate 14 = .ok (.istore 4, 2) := by decide +kernel
theorem dX1_wayGate_16 : decode cX1_wayGate 16 = .ok (.iconst 0, 1) := by decide +kernel
theorem dX1_wayGate_17 : decode cX1_wayGate 17 = .ok (.istore 5, 2) := by decide +kernel
theorem dX1_wayGate_19 : decode cX1_wayGate 19 = .ok (.iload 5, 2) := by decide +kernel
theorem dX1_wayGate_21 : decode cX1_wayGate 21 = .ok (.iload_n 3, 1) := by decide +kernel
theorem dX1_wayGate_22 : decode cX1_wayGate 22 = .ok (.if_icmp .ge 30, 3) := by decide +kernel
theorem dX1_wayGate_25 : decode cX1_wayGate 25 = .ok (.aload_n 0, 1) := by decide +kernel
theorem dX1_wayGate_26 : decode cX1_wayGate 26 = .ok (.getfield 12, 3) := by decide +kernel
theorem dX1_wayGate_29 : decode cX1_wayGate 29 = .ok (.getfield 75, 3) := by decide +kernel
theorem dX1_wayGate_32 : decode cX1_wayGate 32 = .ok (.aload_n 0, 1) := by decide +kernel
theorem dX1_wayGate_33 : decode cX1_wayGate 33 = .ok (.iload 4, 2) := by decide +kernel
theorem dX1_wayGate_35 : decode cX1_wayGate 35 = .ok (.invokevirtual 106, 3) := by decide +kernel
theorem dX1_wayGate_38 : decode cX1_wayGate 38 = .ok (.iaload, 1) := by decide +kernel
theorem dX1_wayGate_39 : decode cX1_wayGate 39 = .ok (.iload 4, 2) := by decide +kernel
theorem dX1_wayGate_41 : decode cX1_wayGate 41 = .ok (.invokestatic 78, 3) := by decide +kernel
theorem dX1_wayGate_44 : decode cX1_wayGate 44 = .ok (.istore 4, 2) := by decide +kernel
theorem dX1_wayGate_46 : decode cX1_wayGate 46 = .ok (.iinc 5 1, 3) := by decide +kernel
theorem dX1_wayGate_49 : decode cX1_wayGate 49 = .ok (.goto (-30), 3) := by decide +kernel
theorem dX1_wayGate_52 : decode cX1_wayGate 52 = .ok (.aload_n 0, 1) := by decide +kernel
theorem dX1_wayGate_53 : decode cX1_wayGate 53 = .ok (.iload 4, 2) := by decide +kernel
theorem dX1_wayGate_55 : decode cX1_wayGate 55 = .ok (.invokevirtual 106, 3) := by decide +kernel
theorem dX1_wayGate_58 : decode cX1_wayGate 58 = .ok (.ireturn, 1) := by decide +kernel
def sm_X1_wayGate_19 (K19 : Nat → Int32 → Int32 → Int32 → aw_H → Prop) (Q : aw_R) (p0 : Nat) (x3 : Int32) (x4 : Int32) (x5 : Int32) (h : aw_H) : Prop :=
  if x3 ≤ x5 then (sv_O h p0 1 (tr_X1_nearerGate [.ref p0, .int x4] h fun r2 h1 => sr_I r2 fun v3 => Q (some (.int v3)) h1)) else (sg_R h p0 1 0 fun q4 => sg_R h q4 0 2 fun q5 => sv_O h p0 1 (tr_X1_nearerGate [.ref p0, .int x4] h fun r7 h6 => sr_I r7 fun v8 => sa_I h6 q5 v8 fun v9 => tr_X2_act [.int v9, .int x4] h6 fun r11 h10 => sr_I r11 fun v12 => K19 p0 x3 v12 (x5 + 1) h10))
set_option maxRecDepth 100000 in
set_option maxHeartbeats 4000000 in
theorem bl_X1_wayGate_19 {X : aw_X} {Q : aw_R} (C : aw_C X cX1_wayGate RX1 6 5) (Z : aw_Z X cX1_wayGate (some .int) Q) (p0 : Nat) (x3 : Int32) (x4 : Int32) (x5 : Int32) (h : aw_H) (hh : sm_X1_wayGate_19 (fun (p0 : Nat) (x3 : Int32) (x4 : Int32) (x5 : Int32) (h : aw_H) => Sat X 19 [.ref p0, Value.null, Value.null, .int x3, .int x4, .int x5] [] h) Q p0 x3 x4 x5 h) : Sat X 19 [.ref p0, Value.null, Value.null, .int x3, .int x4, .int x5] [] h := by
  unfold sm_X1_wayGate_19 at hh
  refine ow_iload C dX1_wayGate_19 rfl ?_
  refine ow_iload_n C dX1_wayGate_21 rfl rfl ?_
  refine ow_icmp_ge (tgt := 52) C dX1_wayGate_22 (by decide) hh (fun hh => ?_) (fun hh => ?_)
  · skip
    refine ow_aload_n C dX1_wayGate_52 rfl rfl ?_
    refine ow_iload C dX1_wayGate_53 rfl ?_
    refine ow_callV C (cv_X1_nearerGate _) (Nat.le_of_ble_eq_true rfl) kw_269 dX1_wayGate_55 (as := [.int x4]) (st := []) rfl rfl (Nat.le_of_ble_eq_true rfl) hh (fun r2 h1 hq => ?_)
    obtain ⟨v3, rfl, hh⟩ := sr_I_e hq
    show Sat X 58 [.ref p0, Value.null, Value.null, .int x3, .int x4, .int x5] [.int v3] h1
    exact ow_iret Z dX1_wayGate_58 trivial hh
  · skip
    refine ow_aload_n C dX1_wayGate_25 rfl rfl ?_
    refine ow_getR (ci := 1) (k := 0) (T := TX1) C rfl igX1 (by decide) kw_199 dX1_wayGate_26 hh (fun q4 hh => ?_)
    refine ow_getR (ci := 0) (k := 2) (T := TX0) C rfl igX0 (by decide) kw_231 dX1_wayGate_29 hh (fun q5 hh => ?_)
    refine ow_aload_n C dX1_wayGate_32 rfl rfl ?_
    refine ow_iload C dX1_wayGate_33 rfl ?_
    refine ow_callV C (cv_X1_nearerGate _) (Nat.le_of_ble_eq_true rfl) kw_269 dX1_wayGate_35 (as := [.int x4]) (st := [.ref q5]) rfl rfl (Nat.le_of_ble_eq_true rfl) hh (fun r7 h6 hq => ?_)
    obtain ⟨v8, rfl, hh⟩ := sr_I_e hq
    show Sat X 38 [.ref p0, Value.null, Value.null, .int x3, .int x4, .int x5] [.int v8, .ref q5] h6
    refine ow_iaload C dX1_wayGate_38 hh (fun v9 hh => ?_)
    refine ow_iload C dX1_wayGate_39 rfl ?_
    refine ow_callS C (cs_X2_act _) (Nat.le_of_ble_eq_true rfl) kw_232 dX1_wayGate_41 (as := [.int v9, .int x4]) (st := []) rfl rfl (Nat.le_of_ble_eq_true rfl) hh (fun r11 h10 hq => ?_)
    obtain ⟨v12, rfl, hh⟩ := sr_I_e hq
    show Sat X 44 [.ref p0, Value.null, Value.null, .int x3, .int x4, .int x5] [.int v12] h10
    refine ow_istore (L' := [.ref p0, Value.null, Value.null, .int x3, .int v12, .int x5]) C dX1_wayGate_44 (by decide) rfl ?_
    refine ow_iinc (v := x5 + 1) (L' := [.ref p0, Value.null, Value.null, .int x3, .int v12, .int (x5 + 1)]) C dX1_wayGate_46 rfl rfl (by decide) rfl ?_
    refine ow_goto (tgt := 19) C dX1_wayGate_49 (by decide) ?_
    exact Sat.mask hh (mk_y (mk_n (mk_n (mk_y (mk_y (mk_y mk_0))))))
def sm_X1_wayGate_0 (K19 : Nat → Int32 → Int32 → Int32 → aw_H → Prop) (Q : aw_R) (p0 : Nat) (x1 : Int32) (x2 : Int32) (x3 : Int32) (h : aw_H) : Prop :=
  sv_O h p0 1 (tr_X1_wayLength [.ref p0, .int x1, .int x2] h fun r2 h1 => sr_I r2 fun v3 => if x3 < v3 then (K19 p0 x3 x1 0 h1) else (Q (some (.int ((-4)))) h1))
set_option maxRecDepth 100000 in
set_option maxHeartbeats 4000000 in
theorem bl_X1_wayGate_0 {X : aw_X} {Q : aw_R} (C : aw_C X cX1_wayGate RX1 6 5) (Z : aw_Z X cX1_wayGate (some .int) Q) (p0 : Nat) (x1 : Int32) (x2 : Int32) (x3 : Int32) (h : aw_H) (hh : sm_X1_wayGate_0 (fun (p0 : Nat) (x3 : Int32) (x4 : Int32) (x5 : Int32) (h : aw_H) => Sat X 19 [.ref p0, Value.null, Value.null, .int x3, .int x4, .int x5] [] h) Q p0 x1 x2 x3 h) : Sat X 0 [.ref p0, .int x1, .int x2, .int x3, Value.null, Value.null] [] h := by
  unfold sm_X1_wayGate_0 at hh
  refine ow_iload_n C dX1_wayGate_0 rfl rfl ?_
  refine ow_aload_n C dX1_wayGate_1 rfl rfl ?_
  refine ow_iload_n C dX1_wayGate_2 rfl rfl ?_
  refine ow_iload_n C dX1_wayGate_3 rfl rfl ?_
  refine ow_callV C (cv_X1_wayLength _) (Nat.le_of_ble_eq_true rfl) kw_270 dX1_wayGate_4 (as := [.int x1, .int x2]) (st := [.int x3]) rfl rfl (Nat.le_of_ble_eq_true rfl) hh (fun r2 h1 hq => ?_)
  obtain ⟨v3, rfl, hh⟩ := sr_I_e hq
  show Sat X 7 [.ref p0, .int x1, .int x2, .int x3, Value.null, Value.null] [.int v3, .int x3] h1
  refine ow_icmp_lt (tgt := 13) C dX1_wayGate_7 (by decide) hh (fun hh => ?_) (fun hh => ?_)
  · skip
    refine ow_iload_n C dX1_wayGate_13 rfl rfl ?_
    refine ow_istore (L' := [.ref p0, .int x1, .int x2, .int x3, .int x1, Value.null]) C dX1_wayGate_14 (by decide) rfl ?_
    refine ow_iconst (v := 0) C dX1_wayGate_16 rfl ?_
    refine ow_istore (L' := [.ref p0, .int x1, .int x2, .int x3, .int x1, .int 0]) C dX1_wayGate_17 (by decide) rfl ?_
    exact Sat.mask hh (mk_y (mk_n (mk_n (mk_y (mk_y (mk_y mk_0))))))
  · skip
    refine ow_bipush (v := (-4)) C dX1_wayGate_10 rfl ?_
    exact ow_iret Z dX1_wayGate_12 trivial hh
def tr_X1_wayGate : aw_T := fun as h Q => ∃ (p0 : Nat) (x1 : Int32) (x2 : Int32) (x3 : Int32), as = [.ref p0, .int x1, .int x2, .int x3] ∧ (∀ (K19 : Nat → Int32 → Int32 → Int32 → aw_H → Prop), (∀ (p0 : Nat) (x3 : Int32) (x4 : Int32) (x5 : Int32) (h : aw_H), sm_X1_wayGate_19 K19 Q p0 x3 x4 x5 h → K19 p0 x3 x4 x5 h) → sm_X1_wayGate_0 K19 Q p0 x1 x2 x3 h)
theorem tq_X1_wayGate {p0 : Nat} {x1 : Int32} {x2 : Int32} {x3 : Int32} {h : aw_H} {Q : aw_R} : tr_X1_wayGate [.ref p0, .int x1, .int x2, .int x3] h Q ↔ (∀ (K19 : Nat → Int32 → Int32 → Int32 → aw_H → Prop), (∀ (p0 : Nat) (x3 : Int32) (x4 : Int32) (x5 : Int32) (h : aw_H), sm_X1_wayGate_19 K19 Q p0 x3 x4 x5 h → K19 p0 x3 x4 x5 h) → sm_X1_wayGate_0 K19 Q p0 x1 x2 x3 h) := by
  constructor
  · rintro ⟨_, _, _, _, as0, hh⟩
    cases as0
    exact hh
  · intro hh
    exact ⟨_, _, _, _, rfl, hh⟩
theorem ct_X1_wayGate (E : aw_F) : CT E yX1_wayGate cX1_wayGate 6 (some .int) 5 tr_X1_wayGate := by
  refine ct_of (by decide) ?_
  intro X Q as h hE C Z hG
  subst hE
  obtain ⟨p0, x1, x2, x3, rfl, hh⟩ := hG
  refine ⟨[.ref p0, .int x1, .int x2, .int x3, Value.null, Value.null], rfl, Nat.le_of_ble_eq_true rfl, ?_⟩
  exact bl_X1_wayGate_0 C Z p0 x1 x2 x3 h (hh (fun (p0 : Nat) (x3 : Int32) (x4 : Int32) (x5 : Int32) (h : aw_H) => Sat X 19 [.ref p0, Value.null, Value.null, .int x3, .int x4, .int x5] [] h) (fun p0 x3 x4 x5 h hh => bl_X1_wayGate_19 C Z p0 x3 x4 x5 h hh))
theorem cv_X1_wayGate (E : aw_F) : CV E yX1_wayGate cX1_wayGate 6 (some .int) 5 3 1 tr_X1_wayGate := ⟨ct_X1_wayGate E, by decide, kw_272, kw_273, kw_203, kw_271, by decide +kernel, _, _, rfl⟩
theorem dX1_shownGates_0 : decode cX1_shownGates 0 = .ok (.iconst 0, 1) := by decide +kernel
theorem dX1_shownGates_1 : decode cX1_shownGates 1 = .ok (.istore_n 2, 1) := by decide +kernel
theorem dX1_shownGates_2 : decode cX1_shownGates 2 = .ok (.iload_n 1, 1) := by decide +kernel
theorem dX1_shownGates_3 : decode cX1_shownGates 3 = .ok (.istore_n 3, 1) := by decide +kernel
theorem dX1_shownGates_4 : decode cX1_shownGates 4 = .ok (.iconst 0, 1) := by decide +kernel
theorem dX1_shownGates_5 : decode cX1_shownGates 5 = .ok (.istore 4, 2) := by decide +kernel
theorem dX1_shownGates_7 : decode cX1_shownGates 7 = .ok (.iload 4, 2) := by decide +kernel
theorem dX1_shownGates_9 : decode cX1_shownGates 9 = .ok (.aload_n 0, 1) := by decide +kernel
theorem dX1_shownGates_10 : decode cX1_shownGates 10 = .ok (.getfield 12, 3) := by decide +kernel
theorem dX1_shownGates_13 : decode cX1_shownGates 13 = .ok (.getfield 72, 3) := by decide +kernel
theorem dX1_shownGates_16 : decode cX1_shownGates 16 = .ok (.if_icmp .ge 41, 3) := by decide +kernel
theorem dX1_shownGates_19 : decode cX1_shownGates 19 = .ok (.aload_n 0, 1) := by decide +kernel
theorem dX1_shownGates_20 : decode cX1_shownGates 20 = .ok (.getfield 12, 3) := by decide +kernel
theorem dX1_shownGates_23 : decode cX1_shownGates 23 = .ok (.getfield 75, 3) := by decide +kernel
theorem dX1_shownGates_26 : decode cX1_shownGates 26 = .ok (.iload 4, 2) := by decide +kernel
theorem dX1_shownGates_28 : decode cX1_shownGates 28 = .ok (.iaload, 1) := by decide +kernel
theorem dX1_shownGates_29 : decode cX1_shownGates 29 = .ok (.iload_n 3, 1) := by decide +kernel
theorem dX1_shownGates_30 : decode cX1_shownGates 30 = .ok (.invokestatic 78, 3) := by decide +kernel
theorem dX1_shownGates_33 : decode cX1_shownGates 33 = .ok (.istore 5, 2) := by decide +kernel
theorem dX1_shownGates_35 : decode cX1_shownGates 35 = .ok (.iload 5, 2) := by decide +kernel
theorem dX1_shownGates_37 : decode cX1_shownGates 37 = .ok (.iload_n 3, 1) := by decide +kernel
theorem dX1_shownGates_38 : decode cX1_shownGates 38 = .ok (.if_icmp .eq 10, 3) := by decide +kernel
theorem dX1_shownGates_41 : decode cX1_shownGates 41 = .ok (.iload_n 2, 1) := by decide +kernel
theorem dX1_shownGates_42 : decode cX1_shownGates 42 = .ok (.iconst 1, 1) := by decide +kernel
theorem dX1_shownGates_43 : decode cX1_shownGates 43 = .ok (.iload 4, 2) := by decide +kernel
theorem dX1_shownGates_45 : decode cX1_shownGates 45 = .ok (.ishl, 1) := by decide +kernel
theorem dX1_shownGates_46 : decode cX1_shownGates 46 = .ok (.ior, 1) := by decide +kernel
theorem dX1_shownGates_47 : decode cX1_shownGates 47 = .ok (.istore_n 2, 1) := by decide +kernel
theorem dX1_shownGates_48 : decode cX1_shownGates 48 = .ok (.iload 5, 2) := by decide +kernel
theorem dX1_shownGates_50 : decode cX1_shownGates 50 = .ok (.istore_n 3, 1) := by decide +kernel
theorem dX1_shownGates_51 : decode cX1_shownGates 51 = .ok (.iinc 4 1, 3) := by decide +kernel
theorem dX1_shownGates_54 : decode cX1_shownGates 54 = .ok (.goto (-47), 3) := by decide +kernel
theorem dX1_shownGates_57 : decode cX1_shownGates 57 = .ok (.iload_n 2, 1) := by decide +kernel
theorem dX1_shownGates_58 : decode cX1_shownGates 58 = .ok (.ireturn, 1) := by decide +kernel
def sm_X1_shownGates_7 (K7 : Nat → Int32 → Int32 → Int32 → aw_H → Prop) (Q : aw_R) (p0 : Nat) (x2 : Int32) (x3 : Int32) (x4 : Int32) (h : aw_H) : Prop :=
  sg_R h p0 1 0 fun q1 => sg_I h q1 0 1 fun v2 => if v2 ≤ x4 then (Q (some (.int x2)) h) else (sg_R h p0 1 0 fun q3 => sg_R h q3 0 2 fun q4 => sa_I h q4 x4 fun v5 => tr_X2_act [.int v5, .int x3] h fun r7 h6 => sr_I r7 fun v8 => if v8 = x3 then (K7 p0 x2 v8 (x4 + 1) h6) else (K7 p0 (x2 ||| ((1 : Int32) <<< (x4 &&& 31))) v8 (x4 + 1) h6))
set_option maxRecDepth 100000 in
set_option maxHeartbeats 4000000 in
theorem bl_X1_shownGates_7 {X : aw_X} {Q : aw_R} (C : aw_C X cX1_shownGates RX1 6 3) (Z : aw_Z X cX1_shownGates (some .int) Q) (p0 : Nat) (x2 : Int32) (x3 : Int32) (x4 : Int32) (h : aw_H) (hh : sm_X1_shownGates_7 (fun (p0 : Nat) (x2 : Int32) (x3 : Int32) (x4 : Int32) (h : aw_H) => Sat X 7 [.ref p0, Value.null, .int x2, .int x3, .int x4, Value.null] [] h) Q p0 x2 x3 x4 h) : Sat X 7 [.ref p0, Value.null, .int x2, .int x3, .int x4, Value.null] [] h := by
  unfold sm_X1_shownGates_7 at hh
  refine ow_iload C dX1_shownGates_7 rfl ?_
  refine ow_aload_n C dX1_shownGates_9 rfl rfl ?_
  refine ow_getR (ci := 1) (k := 0) (T := TX1) C rfl igX1 (by decide) kw_199 dX1_shownGates_10 hh (fun q1 hh => ?_)
  refine ow_getI (ci := 0) (k := 1) (T := TX0) C rfl igX0 (by decide) kw_233 dX1_shownGates_13 hh (fun v2 hh => ?_)
  refine ow_icmp_ge (tgt := 57) C dX1_shownGates_16 (by decide) hh (fun hh => ?_) (fun hh => ?_)
  · skip
    refine ow_iload_n C dX1_shownGates_57 rfl rfl ?_
    exact ow_iret Z dX1_shownGates_58 trivial hh
  · skip
    refine ow_aload_n C dX1_shownGates_19 rfl rfl ?_
    refine ow_getR (ci := 1) (k := 0) (T := TX1) C rfl igX1 (by decide) kw_199 dX1_shownGates_20 hh (fun q3 hh => ?_)
    refine ow_getR (ci := 0) (k := 2) (T := TX0) C rfl igX0 (by decide) kw_231 dX1_shownGates_23 hh (fun q4 hh => ?_)
    refine ow_iload C dX1_shownGates_26 rfl ?_
    refine ow_iaload C dX1_shownGates_28 hh (fun v5 hh => ?_)
    refine ow_iload_n C dX1_shownGates_29 rfl rfl ?_
    refine ow_callS C (cs_X2_act _) (Nat.le_of_ble_eq_true rfl) kw_232 dX1_shownGates_30 (as := [.int v5, .int x3]) (st := []) rfl rfl (Nat.le_of_ble_eq_true rfl) hh (fun r7 h6 hq => ?_)
    obtain ⟨v8, rfl, hh⟩ := sr_I_e hq
    show Sat X 33 [.ref p0, Value.null, .int x2, .int x3, .int x4, Value.null] [.int v8] h6
    refine ow_istore (L' := [.ref p0, Value.null, .int x2, .int x3, .int x4, .int v8]) C dX1_shownGates_33 (by decide) rfl ?_
    refine ow_iload C dX1_shownGates_35 rfl ?_
    refine ow_iload_n C dX1_shownGates_37 rfl rfl ?_
    refine ow_icmp_eq (tgt := 48) C dX1_shownGates_38 (by decide) hh (fun hh => ?_) (fun hh => ?_)
    · skip
      refine ow_iload C dX1_shownGates_48 rfl ?_
      refine ow_istore_n (L' := [.ref p0, Value.null, .int x2, .int v8, .int x4, .int v8]) C dX1_shownGates_50 rfl (by decide) rfl ?_
      refine ow_iinc (v := x4 + 1) (L' := [.ref p0, Value.null, .int x2, .int v8, .int (x4 + 1), .int v8]) C dX1_shownGates_51 rfl rfl (by decide) rfl ?_
      refine ow_goto (tgt := 7) C dX1_shownGates_54 (by decide) ?_
      exact Sat.mask hh (mk_y (mk_n (mk_y (mk_y (mk_y (mk_n mk_0))))))
    · skip
      refine ow_iload_n C dX1_shownGates_41 rfl rfl ?_
      refine ow_iconst (v := 1) C dX1_shownGates_42 rfl ?_
      refine ow_iload C dX1_shownGates_43 rfl ?_
      refine ow_ishl C dX1_shownGates_45 ?_
      refine ow_ior C dX1_shownGates_46 ?_
      refine ow_istore_n (L' := [.ref p0, Value.null, .int (x2 ||| ((1 : Int32) <<< (x4 &&& 31))), .int x3, .int x4, .int v8]) C dX1_shownGates_47 rfl (by decide) rfl ?_
      refine ow_iload C dX1_shownGates_48 rfl ?_
      refine ow_istore_n (L' := [.ref p0, Value.null, .int (x2 ||| ((1 : Int32) <<< (x4 &&& 31))), .int v8, .int x4, .int v8]) C dX1_shownGates_50 rfl (by decide) rfl ?_
      refine ow_iinc (v := x4 + 1) (L' := [.ref p0, Value.null, .int (x2 ||| ((1 : Int32) <<< (x4 &&& 31))), .int v8, .int (x4 + 1), .int v8]) C dX1_shownGates_51 rfl rfl (by decide) rfl ?_
      refine ow_goto (tgt := 7) C dX1_shownGates_54 (by decide) ?_
      exact Sat.mask hh (mk_y (mk_n (mk_y (mk_y (mk_y (mk_n mk_0))))))
def sm_X1_shownGates_0 (K7 : Nat → Int32 → Int32 → Int32 → aw_H → Prop) (Q : aw_R) (p0 : Nat) (x1 : Int32) (h : aw_H) : Prop :=
  K7 p0 0 x1 0 h
set_option maxRecDepth 100000 in
set_option maxHeartbeats 4000000 in
theorem bl_X1_shownGates_0 {X : aw_X} {Q : aw_R} (C : aw_C X cX1_shownGates RX1 6 3) (Z : aw_Z X cX1_shownGates (some .int) Q) (p0 : Nat) (x1 : Int32) (h : aw_H) (hh : sm_X1_shownGates_0 (fun (p0 : Nat) (x2 : Int32) (x3 : Int32) (x4 : Int32) (h : aw_H) => Sat X 7 [.ref p0, Value.null, .int x2, .int x3, .int x4, Value.null] [] h) Q p0 x1 h) : Sat X 0 [.ref p0, .int x1, Value.null, Value.null, Value.null, Value.null] [] h := by
  unfold sm_X1_shownGates_0 at hh
  refine ow_iconst (v := 0) C dX1_shownGates_0 rfl ?_
  refine ow_istore_n (L' := [.ref p0, .int x1, .int 0, Value.null, Value.null, Value.null]) C dX1_shownGates_1 rfl (by decide) rfl ?_
  refine ow_iload_n C dX1_shownGates_2 rfl rfl ?_
  refine ow_istore_n (L' := [.ref p0, .int x1, .int 0, .int x1, Value.null, Value.null]) C dX1_shownGates_3 rfl (by decide) rfl ?_
  refine ow_iconst (v := 0) C dX1_shownGates_4 rfl ?_
  refine ow_istore (L' := [.ref p0, .int x1, .int 0, .int x1, .int 0, Value.null]) C dX1_shownGates_5 (by decide) rfl ?_
  exact Sat.mask hh (mk_y (mk_n (mk_y (mk_y (mk_y (mk_n mk_0))))))
def tr_X1_shownGates : aw_T := fun as h Q => ∃ (p0 : Nat) (x1 : Int32), as = [.ref p0, .int x1] ∧ (∀ (K7 : Nat → Int32 → Int32 → Int32 → aw_H → Prop), (∀ (p0 : Nat) (x2 : Int32) (x3 : Int32) (x4 : Int32) (h : aw_H), sm_X1_shownGates_7 K7 Q p0 x2 x3 x4 h → K7 p0 x2 x3 x4 h) → sm_X1_shownGates_0 K7 Q p0 x1 h)
theorem tq_X1_shownGates {p0 : Nat} {x1 : Int32} {h : aw_H} {Q : aw_R} : tr_X1_shownGates [.ref p0, .int x1] h Q ↔ (∀ (K7 : Nat → Int32 → Int32 → Int32 → aw_H → Prop), (∀ (p0 : Nat) (x2 : Int32) (x3 : Int32) (x4 : Int32) (h : aw_H), sm_X1_shownGates_7 K7 Q p0 x2 x3 x4 h → K7 p0 x2 x3 x4 h) → sm_X1_shownGates_0 K7 Q p0 x1 h) := by
  constructor
  · rintro ⟨_, _, as0, hh⟩
    cases as0
    exact hh
  · intro hh
    exact ⟨_, _, rfl, hh⟩
theorem ct_X1_shownGates (E : aw_F) : CT E yX1_shownGates cX1_shownGates 6 (some .int) 3 tr_X1_shownGates := by
  refine ct_of (by decide) ?_
  intro X Q as h hE C Z hG
  subst hE
  obtain ⟨p0, x1, rfl, hh⟩ := hG
  refine ⟨[.ref p0, .int x1, Value.null, Value.null, Value.null, Value.null], rfl, Nat.le_of_ble_eq_true rfl, ?_⟩
  exact bl_X1_shownGates_0 C Z p0 x1 h (hh (fun (p0 : Nat) (x2 : Int32) (x3 : Int32) (x4 : Int32) (h : aw_H) => Sat X 7 [.ref p0, Value.null, .int x2, .int x3, .int x4, Value.null] [] h) (fun p0 x2 x3 x4 h hh => bl_X1_shownGates_7 C Z p0 x2 x3 x4 h hh))
theorem cv_X1_shownGates (E : aw_F) : CV E yX1_shownGates cX1_shownGates 6 (some .int) 3 1 1 tr_X1_shownGates := ⟨ct_X1_shownGates E, by decide, kw_275, kw_276, kw_203, kw_274, by decide +kernel, _, _, rfl⟩
theorem dX1_tellingState_0 : decode cX1_tellingState 0 = .ok (.iconst 0, 1) := by decide +kernel
theorem dX1_tellingState_1 : decode cX1_tellingState 1 = .ok (.istore_n 1, 1) := by decide +kernel
theorem dX1_tellingState_2 : decode cX1_tellingState 2 = .ok (.iconst 0, 1) := by decide +kernel
theorem dX1_tellingState_3 : decode cX1_tellingState 3 = .ok (.istore_n 2, 1) := by decide +kernel
theorem dX1_tellingState_4 : decode cX1_tellingState 4 = .ok (.aload_n 0, 1) := by decide +kernel
theorem dX1_tellingState_5 : decode cX1_tellingState 5 = .ok (.getfield 12, 3) := by decide +kernel
theorem dX1_tellingState_8 : decode cX1_tellingState 8 = .ok (.invokevirtual 28, 3) := by decide +kernel
theorem dX1_tellingState_11 : decode cX1_tellingState 11 = .ok (.istore_n 3, 1) := by decide +kernel
theorem dX1_tellingState_12 : decode cX1_tellingState 12 = .ok (.iconst 0, 1) := by decide +kernel
theorem dX1_tellingState_13 : decode cX1_tellingState 13 = .ok (.istore 4, 2) := by decide +kernel
theorem dX1_tellingState_15 : decode cX1_tellingState 15 = .ok (.iload 4, 2) := by decide +kernel
theorem dX1_tellingState_17 : decode cX1_tellingState 17 = .ok (.iload_n 3, 1) := by decide +kernel
theorem dX1_tellingState_18 : decode cX1_tellingState 18 = .ok (.if_icmp .ge 32, 3) := by decide +kernel
theorem dX1_tellingState_21 : decode cX1_tellingState 21 = .ok (.aload_n 0, 1) := by decide +kernel
theorem dX1_tellingState_22 : decode cX1_tellingState 22 = .ok (.iload 4, 2) := by decide +kernel
theorem dX1_tellingState_24 : decode cX1_tellingState 24 = .ok (.invokevirtual 109, 3) := by decide +kernel
theorem dX1_tellingState_27 : decode cX1_tellingState 27 = .ok (.invokestatic 112, 3) := by decide +kernel
theorem dX1_tellingState_30 : decode cX1_tellingState 30 = .ok (.istore 5, 2) := by decide +kernel
theorem dX1_tellingState_32 : decode cX1_tellingState 32 = .ok (.iload 5, 2) := by decide +kernel
theorem dX1_tellingState_34 : decode cX1_tellingState 34 = .ok (.iload_n 2, 1) := by decide +kernel
theorem dX1_tellingState_35 : decode cX1_tellingState 35 = .ok (.if_icmp .le 9, 3) := by decide +kernel
theorem dX1_tellingState_38 : decode cX1_tellingState 38 = .ok (.iload 5, 2) := by decide +kernel
theorem dX1_tellingState_40 : decode cX1_tellingState 40 = .ok (.istore_n 2, 1) := by decide +kernel
theorem dX1_tellingState_41 : decode cX1_tellingState 41 = .ok (.iload 4, 2) := by decide +kernel
theorem dX1_tellingState_43 : decode cX1_tellingState 43 = .ok (.istore_n 1, 1) := by decide +kernel
theorem dX1_tellingState_44 : decode cX1_tellingState 44 = .ok (.iinc 4 1, 3) := by decide +kernel
theorem dX1_tellingState_47 : decode cX1_tellingState 47 = .ok (.goto (-32), 3) := by decide +kernel
theorem dX1_tellingState_50 : decode cX1_tellingState 50 = .ok (.iload_n 1, 1) := by decide +kernel
theorem dX1_tellingState_51 : decode cX1_tellingState 51 = .ok (.ireturn, 1) := by decide +kernel
def sm_X1_tellingState_15 (K15 : Nat → Int32 → Int32 → Int32 → Int32 → aw_H → Prop) (Q : aw_R) (p0 : Nat) (x1 : Int32) (x2 : Int32) (x3 : Int32) (x4 : Int32) (h : aw_H) : Prop :=
  if x3 ≤ x4 then (Q (some (.int x1)) h) else (sv_O h p0 1 (tr_X1_shownGates [.ref p0, .int x4] h fun r2 h1 => sr_I r2 fun v3 => tr_J6_bitCount_0f7a4 [.int v3] h1 fun r5 h4 => sr_I r5 fun v6 => if v6 ≤ x2 then (K15 p0 x1 x2 x3 (x4 + 1) h4) else (K15 p0 x4 v6 x3 (x4 + 1) h4)))
set_option maxRecDepth 100000 in
set_option maxHeartbeats 4000000 in
theorem bl_X1_tellingState_15 {X : aw_X} {Q : aw_R} (C : aw_C X cX1_tellingState RX1 6 4) (Z : aw_Z X cX1_tellingState (some .int) Q) (p0 : Nat) (x1 : Int32) (x2 : Int32) (x3 : Int32) (x4 : Int32) (h : aw_H) (hh : sm_X1_tellingState_15 (fun (p0 : Nat) (x1 : Int32) (x2 : Int32) (x3 : Int32) (x4 : Int32) (h : aw_H) => Sat X 15 [.ref p0, .int x1, .int x2, .int x3, .int x4, Value.null] [] h) Q p0 x1 x2 x3 x4 h) : Sat X 15 [.ref p0, .int x1, .int x2, .int x3, .int x4, Value.null] [] h := by
  unfold sm_X1_tellingState_15 at hh
  refine ow_iload C dX1_tellingState_15 rfl ?_
  refine ow_iload_n C dX1_tellingState_17 rfl rfl ?_
  refine ow_icmp_ge (tgt := 50) C dX1_tellingState_18 (by decide) hh (fun hh => ?_) (fun hh => ?_)
  · skip
    refine ow_iload_n C dX1_tellingState_50 rfl rfl ?_
    exact ow_iret Z dX1_tellingState_51 trivial hh
  · skip
    refine ow_aload_n C dX1_tellingState_21 rfl rfl ?_
    refine ow_iload C dX1_tellingState_22 rfl ?_
    refine ow_callV C (cv_X1_shownGates _) (Nat.le_of_ble_eq_true rfl) kw_277 dX1_tellingState_24 (as := [.int x4]) (st := []) rfl rfl (Nat.le_of_ble_eq_true rfl) hh (fun r2 h1 hq => ?_)
    obtain ⟨v3, rfl, hh⟩ := sr_I_e hq
    show Sat X 27 [.ref p0, .int x1, .int x2, .int x3, .int x4, Value.null] [.int v3] h1
    refine ow_callS C (cs_J6_bitCount_0f7a4 _) (Nat.le_of_ble_eq_true rfl) kw_278 dX1_tellingState_27 (as := [.int v3]) (st := []) rfl rfl (Nat.le_of_ble_eq_true rfl) hh (fun r5 h4 hq => ?_)
    obtain ⟨v6, rfl, hh⟩ := sr_I_e hq
    show Sat X 30 [.ref p0, .int x1, .int x2, .int x3, .int x4, Value.null] [.int v6] h4
    refine ow_istore (L' := [.ref p0, .int x1, .int x2, .int x3, .int x4, .int v6]) C dX1_tellingState_30 (by decide) rfl ?_
    refine ow_iload C dX1_tellingState_32 rfl ?_
    refine ow_iload_n C dX1_tellingState_34 rfl rfl ?_
    refine ow_icmp_le (tgt := 44) C dX1_tellingState_35 (by decide) hh (fun hh => ?_) (fun hh => ?_)
    · skip
      refine ow_iinc (v := x4 + 1) (L' := [.ref p0, .int x1, .int x2, .int x3, .int (x4 + 1), .int v6]) C dX1_tellingState_44 rfl rfl (by decide) rfl ?_
      refine ow_goto (tgt := 15) C dX1_tellingState_47 (by decide) ?_
      exact Sat.mask hh (mk_y (mk_y (mk_y (mk_y (mk_y (mk_n mk_0))))))
    · skip
      refine ow_iload C dX1_tellingState_38 rfl ?_
      refine ow_istore_n (L' := [.ref p0, .int x1, .int v6, .int x3, .int x4, .int v6]) C dX1_tellingState_40 rfl (by decide) rfl ?_
      refine ow_iload C dX1_tellingState_41 rfl ?_
      refine ow_istore_n (L' := [.ref p0, .int x4, .int v6, .int x3, .int x4, .int v6]) C dX1_tellingState_43 rfl (by decide) rfl ?_
      refine ow_iinc (v := x4 + 1) (L' := [.ref p0, .int x4, .int v6, .int x3, .int (x4 + 1), .int v6]) C dX1_tellingState_44 rfl rfl (by decide) rfl ?_
      refine ow_goto (tgt := 15) C dX1_tellingState_47 (by decide) ?_
      exact Sat.mask hh (mk_y (mk_y (mk_y (mk_y (mk_y (mk_n mk_0))))))
def sm_X1_tellingState_0 (K15 : Nat → Int32 → Int32 → Int32 → Int32 → aw_H → Prop) (Q : aw_R) (p0 : Nat) (h : aw_H) : Prop :=
  sg_R h p0 1 0 fun q1 => sv_O h q1 0 (tr_X0_states [.ref q1] h fun r3 h2 => sr_I r3 fun v4 => K15 p0 0 0 v4 0 h2)
set_option maxRecDepth 100000 in
set_option maxHeartbeats 4000000 in
theorem bl_X1_tellingState_0 {X : aw_X} {Q : aw_R} (C : aw_C X cX1_tellingState RX1 6 4) (Z : aw_Z X cX1_tellingState (some .int) Q) (p0 : Nat) (h : aw_H) (hh : sm_X1_tellingState_0 (fun (p0 : Nat) (x1 : Int32) (x2 : Int32) (x3 : Int32) (x4 : Int32) (h : aw_H) => Sat X 15 [.ref p0, .int x1, .int x2, .int x3, .int x4, Value.null] [] h) Q p0 h) : Sat X 0 [.ref p0, Value.null, Value.null, Value.null, Value.null, Value.null] [] h := by
  unfold sm_X1_tellingState_0 at hh
  refine ow_iconst (v := 0) C dX1_tellingState_0 rfl ?_
  refine ow_istore_n (L' := [.ref p0, .int 0, Value.null, Value.null, Value.null, Value.null]) C dX1_tellingState_1 rfl (by decide) rfl ?_
  refine ow_iconst (v := 0) C dX1_tellingState_2 rfl ?_
  refine ow_istore_n (L' := [.ref p0, .int 0, .int 0, Value.null, Value.null, Value.null]) C dX1_tellingState_3 rfl (by decide) rfl ?_
  refine ow_aload_n C dX1_tellingState_4 rfl rfl ?_
  refine ow_getR (ci := 1) (k := 0) (T := TX1) C rfl igX1 (by decide) kw_199 dX1_tellingState_5 hh (fun q1 hh => ?_)
  refine ow_callV C (cv_X0_states _) (Nat.le_of_ble_eq_true rfl) kw_201 dX1_tellingState_8 (as := []) (st := []) rfl rfl (Nat.le_of_ble_eq_true rfl) hh (fun r3 h2 hq => ?_)
  obtain ⟨v4, rfl, hh⟩ := sr_I_e hq
  show Sat X 11 [.ref p0, .int 0, .int 0, Value.null, Value.null, Value.null] [.int v4] h2
  refine ow_istore_n (L' := [.ref p0, .int 0, .int 0, .int v4, Value.null, Value.null]) C dX1_tellingState_11 rfl (by decide) rfl ?_
  refine ow_iconst (v := 0) C dX1_tellingState_12 rfl ?_
  refine ow_istore (L' := [.ref p0, .int 0, .int 0, .int v4, .int 0, Value.null]) C dX1_tellingState_13 (by decide) rfl ?_
  exact Sat.mask hh (mk_y (mk_y (mk_y (mk_y (mk_y (mk_n mk_0))))))
def tr_X1_tellingState : aw_T := fun as h Q => ∃ (p0 : Nat), as = [.ref p0] ∧ (∀ (K15 : Nat → Int32 → Int32 → Int32 → Int32 → aw_H → Prop), (∀ (p0 : Nat) (x1 : Int32) (x2 : Int32) (x3 : Int32) (x4 : Int32) (h : aw_H), sm_X1_tellingState_15 K15 Q p0 x1 x2 x3 x4 h → K15 p0 x1 x2 x3 x4 h) → sm_X1_tellingState_0 K15 Q p0 h)
theorem tq_X1_tellingState {p0 : Nat} {h : aw_H} {Q : aw_R} : tr_X1_tellingState [.ref p0] h Q ↔ (∀ (K15 : Nat → Int32 → Int32 → Int32 → Int32 → aw_H → Prop), (∀ (p0 : Nat) (x1 : Int32) (x2 : Int32) (x3 : Int32) (x4 : Int32) (h : aw_H), sm_X1_tellingState_15 K15 Q p0 x1 x2 x3 x4 h → K15 p0 x1 x2 x3 x4 h) → sm_X1_tellingState_0 K15 Q p0 h) := by
  constructor
  · rintro ⟨_, as0, hh⟩
    cases as0
    exact hh
  · intro hh
    exact ⟨_, rfl, hh⟩
theorem ct_X1_tellingState (E : aw_F) : CT E yX1_tellingState cX1_tellingState 6 (some .int) 4 tr_X1_tellingState := by
  refine ct_of (by decide) ?_
  intro X Q as h hE C Z hG
  subst hE
  obtain ⟨p0, rfl, hh⟩ := hG
  refine ⟨[.ref p0, Value.null, Value.null, Value.null, Value.null, Value.null], rfl, Nat.le_of_ble_eq_true rfl, ?_⟩
  exact bl_X1_tellingState_0 C Z p0 h (hh (fun (p0 : Nat) (x1 : Int32) (x2 : Int32) (x3 : Int32) (x4 : Int32) (h : aw_H) => Sat X 15 [.ref p0, .int x1, .int x2, .int x3, .int x4, Value.null] [] h) (fun p0 x1 x2 x3 x4 h hh => bl_X1_tellingState_15 C Z p0 x1 x2 x3 x4 h hh))
theorem cv_X1_tellingState (E : aw_F) : CV E yX1_tellingState cX1_tellingState 6 (some .int) 4 0 1 tr_X1_tellingState := ⟨ct_X1_tellingState E, by decide, kw_280, kw_281, kw_203, kw_279, by decide +kernel, _, _, rfl⟩
theorem dX1_weight_0 : decode cX1_weight 0 = .ok (.iconst 1, 1) := by decide +kernel
theorem dX1_weight_1 : decode cX1_weight 1 = .ok (.istore_n 3, 1) := by decide +kernel
theorem dX1_weight_2 : decode cX1_weight 2 = .ok (.iconst 0, 1) := by decide +kernel
theorem dX1_weight_3 : decode cX1_weight 3 = .ok (.istore 4, 2) := by decide +kernel
theorem dX1_weight_5 : decode cX1_weight 5 = .ok (.iload 4, 2) := by decide +kernel
theorem dX1_weight_7 : decode cX1_weight 7 = .ok (.aload_n 0, 1) := by decide +kernel
theorem dX1_weight_8 : decode cX1_weight 8 = .ok (.getfield 12, 3) := by decide +kernel
theorem dX1_weight_11 : decode cX1_weight 11 = .ok (.getfield 91, 3) := by decide +kernel
theorem dX1_weight_14 : decode cX1_weight 14 = .ok (.if_icmp .ge 29, 3) := by decide +kernel
theorem dX1_weight_17 : decode cX1_weight 17 = .ok (.iload_n 3, 1) := by decide +kernel
theorem dX1_weight_18 : decode cX1_weight 18 = .ok (.iload_n 1, 1) := by decide +kernel
theorem dX1_weight_19 : decode cX1_weight 19 = .ok (.iload 4, 2) := by decide +kernel
theorem dX1_weight_21 : decode cX1_weight 21 = .ok (.ishr, 1) := by decide +kernel
theorem dX1_weight_22 : decode cX1_weight 22 = .ok (.iconst 1, 1) := by decide +kernel
theorem dX1_weight_23 : decode cX1_weight 23 = .ok (.iand, 1) := by decide +kernel
theorem dX1_weight_24 : decode cX1_weight 24 = .ok (.ifCond .eq 7, 3) := by decide +kernel
theorem dX1_weight_27 : decode cX1_weight 27 = .ok (.iload_n 2, 1) := by decide +kernel
theorem dX1_weight_28 : decode cX1_weight 28 = .ok (.goto 7, 3) := by decide +kernel
theorem dX1_weight_31 : decode cX1_weight 31 = .ok (.bipush 10, 2) := by decide +kernel
theorem dX1_weight_33 : decode cX1_weight 33 = .ok (.iload_n 2, 1) := by decide +kernel
theorem dX1_weight_34 : decode cX1_weight 34 = .ok (.isub, 1) := by decide +kernel
theorem dX1_weight_35 : decode cX1_weight 35 = .ok (.imul, 1) := by decide +kernel
theorem dX1_weight_36 : decode cX1_weight 36 = .ok (.istore_n 3, 1) := by decide +kernel
theorem dX1_weight_37 : decode cX1_weight 37 = .ok (.iinc 4 1, 3) := by decide +kernel
theorem dX1_weight_40 : decode cX1_weight 40 = .ok (.goto (-35), 3) := by decide +kernel
theorem dX1_weight_43 : decode cX1_weight 43 = .ok (.iload_n 3, 1) := by decide +kernel
theorem dX1_weight_44 : decode cX1_weight 44 = .ok (.ireturn, 1) := by decide +kernel
def sm_X1_weight_5 (K5 : Nat → Int32 → Int32 → Int32 → Int32 → aw_H → Prop) (Q : aw_R) (p0 : Nat) (x1 : Int32) (x2 : Int32) (x3 : Int32) (x4 : Int32) (h : aw_H) : Prop :=
  sg_R h p0 1 0 fun q1 => sg_I h q1 0 0 fun v2 => if v2 ≤ x4 then (Q (some (.int x3)) h) else (if ((x1 >>> (x4 &&& 31)) &&& 1) = 0 then (K5 p0 x1 x2 (x3 * (10 - x2)) (x4 + 1) h) else (K5 p0 x1 x2 (x3 * x2) (x4 + 1) h))
set_option maxRecDepth 100000 in
set_option maxHeartbeats 4000000 in
theorem bl_X1_weight_5 {X : aw_X} {Q : aw_R} (C : aw_C X cX1_weight RX1 5 0) (Z : aw_Z X cX1_weight (some .int) Q) (p0 : Nat) (x1 : Int32) (x2 : Int32) (x3 : Int32) (x4 : Int32) (h : aw_H) (hh : sm_X1_weight_5 (fun (p0 : Nat) (x1 : Int32) (x2 : Int32) (x3 : Int32) (x4 : Int32) (h : aw_H) => Sat X 5 [.ref p0, .int x1, .int x2, .int x3, .int x4] [] h) Q p0 x1 x2 x3 x4 h) : Sat X 5 [.ref p0, .int x1, .int x2, .int x3, .int x4] [] h := by
  unfold sm_X1_weight_5 at hh
  refine ow_iload C dX1_weight_5 rfl ?_
  refine ow_aload_n C dX1_weight_7 rfl rfl ?_
  refine ow_getR (ci := 1) (k := 0) (T := TX1) C rfl igX1 (by decide) kw_199 dX1_weight_8 hh (fun q1 hh => ?_)
  refine ow_getI (ci := 0) (k := 0) (T := TX0) C rfl igX0 (by decide) kw_250 dX1_weight_11 hh (fun v2 hh => ?_)
  refine ow_icmp_ge (tgt := 43) C dX1_weight_14 (by decide) hh (fun hh => ?_) (fun hh => ?_)
  · skip
    refine ow_iload_n C dX1_weight_43 rfl rfl ?_
    exact ow_iret Z dX1_weight_44 trivial hh
  · skip
    refine ow_iload_n C dX1_weight_17 rfl rfl ?_
    refine ow_iload_n C dX1_weight_18 rfl rfl ?_
    refine ow_iload C dX1_weight_19 rfl ?_
    refine ow_ishr C dX1_weight_21 ?_
    refine ow_iconst (v := 1) C dX1_weight_22 rfl ?_
    refine ow_iand C dX1_weight_23 ?_
    refine ow_if_eq (tgt := 31) C dX1_weight_24 (by decide) hh (fun hh => ?_) (fun hh => ?_)
    · skip
      refine ow_bipush (v := 10) C dX1_weight_31 rfl ?_
      refine ow_iload_n C dX1_weight_33 rfl rfl ?_
      refine ow_isub C dX1_weight_34 ?_
      refine ow_imul C dX1_weight_35 ?_
      refine ow_istore_n (L' := [.ref p0, .int x1, .int x2, .int (x3 * (10 - x2)), .int x4]) C dX1_weight_36 rfl (by decide) rfl ?_
      refine ow_iinc (v := x4 + 1) (L' := [.ref p0, .int x1, .int x2, .int (x3 * (10 - x2)), .int (x4 + 1)]) C dX1_weight_37 rfl rfl (by decide) rfl ?_
      refine ow_goto (tgt := 5) C dX1_weight_40 (by decide) ?_
      exact Sat.mask hh (mk_y (mk_y (mk_y (mk_y (mk_y mk_0)))))
    · skip
      refine ow_iload_n C dX1_weight_27 rfl rfl ?_
      refine ow_goto (tgt := 35) C dX1_weight_28 (by decide) ?_
      refine ow_imul C dX1_weight_35 ?_
      refine ow_istore_n (L' := [.ref p0, .int x1, .int x2, .int (x3 * x2), .int x4]) C dX1_weight_36 rfl (by decide) rfl ?_
      refine ow_iinc (v := x4 + 1) (L' := [.ref p0, .int x1, .int x2, .int (x3 * x2), .int (x4 + 1)]) C dX1_weight_37 rfl rfl (by decide) rfl ?_
      refine ow_goto (tgt := 5) C dX1_weight_40 (by decide) ?_
      exact Sat.mask hh (mk_y (mk_y (mk_y (mk_y (mk_y mk_0)))))
def sm_X1_weight_0 (K5 : Nat → Int32 → Int32 → Int32 → Int32 → aw_H → Prop) (Q : aw_R) (p0 : Nat) (x1 : Int32) (x2 : Int32) (h : aw_H) : Prop :=
  K5 p0 x1 x2 1 0 h
set_option maxRecDepth 100000 in
set_option maxHeartbeats 4000000 in
theorem bl_X1_weight_0 {X : aw_X} {Q : aw_R} (C : aw_C X cX1_weight RX1 5 0) (Z : aw_Z X cX1_weight (some .int) Q) (p0 : Nat) (x1 : Int32) (x2 : Int32) (h : aw_H) (hh : sm_X1_weight_0 (fun (p0 : Nat) (x1 : Int32) (x2 : Int32) (x3 : Int32) (x4 : Int32) (h : aw_H) => Sat X 5 [.ref p0, .int x1, .int x2, .int x3, .int x4] [] h) Q p0 x1 x2 h) : Sat X 0 [.ref p0, .int x1, .int x2, Value.null, Value.null] [] h := by
  unfold sm_X1_weight_0 at hh
  refine ow_iconst (v := 1) C dX1_weight_0 rfl ?_
  refine ow_istore_n (L' := [.ref p0, .int x1, .int x2, .int 1, Value.null]) C dX1_weight_1 rfl (by decide) rfl ?_
  refine ow_iconst (v := 0) C dX1_weight_2 rfl ?_
  refine ow_istore (L' := [.ref p0, .int x1, .int x2, .int 1, .int 0]) C dX1_weight_3 (by decide) rfl ?_
  exact Sat.mask hh (mk_y (mk_y (mk_y (mk_y (mk_y mk_0)))))
def tr_X1_weight : aw_T := fun as h Q => ∃ (p0 : Nat) (x1 : Int32) (x2 : Int32), as = [.ref p0, .int x1, .int x2] ∧ (∀ (K5 : Nat → Int32 → Int32 → Int32 → Int32 → aw_H → Prop), (∀ (p0 : Nat) (x1 : Int32) (x2 : Int32) (x3 : Int32) (x4 : Int32) (h : aw_H), sm_X1_weight_5 K5 Q p0 x1 x2 x3 x4 h → K5 p0 x1 x2 x3 x4 h) → sm_X1_weight_0 K5 Q p0 x1 x2 h)
theorem tq_X1_weight {p0 : Nat} {x1 : Int32} {x2 : Int32} {h : aw_H} {Q : aw_R} : tr_X1_weight [.ref p0, .int x1, .int x2] h Q ↔ (∀ (K5 : Nat → Int32 → Int32 → Int32 → Int32 → aw_H → Prop), (∀ (p0 : Nat) (x1 : Int32) (x2 : Int32) (x3 : Int32) (x4 : Int32) (h : aw_H), sm_X1_weight_5 K5 Q p0 x1 x2 x3 x4 h → K5 p0 x1 x2 x3 x4 h) → sm_X1_weight_0 K5 Q p0 x1 x2 h) := by
  constructor
  · rintro ⟨_, _, _, as0, hh⟩
    cases as0
    exact hh
  · intro hh
    exact ⟨_, _, _, rfl, hh⟩
theorem ct_X1_weight (E : aw_F) : CT E yX1_weight cX1_weight 5 (some .int) 0 tr_X1_weight := by
  refine ct_of (by decide) ?_
  intro X Q as h hE C Z hG
  subst hE
  obtain ⟨p0, x1, x2, rfl, hh⟩ := hG
  refine ⟨[.ref p0, .int x1, .int x2, Value.null, Value.null], rfl, Nat.le_of_ble_eq_true rfl, ?_⟩
  exact bl_X1_weight_0 C Z p0 x1 x2 h (hh (fun (p0 : Nat) (x1 : Int32) (x2 : Int32) (x3 : Int32) (x4 : Int32) (h : aw_H) => Sat X 5 [.ref p0, .int x1, .int x2, .int x3, .int x4] [] h) (fun p0 x1 x2 x3 x4 h hh => bl_X1_weight_5 C Z p0 x1 x2 x3 x4 h hh))
theorem cv_X1_weight (E : aw_F) : CV E yX1_weight cX1_weight 5 (some .int) 0 2 1 tr_X1_weight := ⟨ct_X1_weight E, by decide, kw_283, kw_284, kw_203, kw_282, by decide +kernel, _, _, rfl⟩
theorem dX1_likelySet_0 : decode cX1_likelySet 0 = .ok (.iconst 0, 1) := by decide +kernel
theorem dX1_likelySet_1 : decode cX1_likelySet 1 = .ok (.istore 4, 2) := by decide +kernel
theorem dX1_likelySet_3 : decode cX1_likelySet 3 = .ok (.aload_n 0, 1) := by decide +kernel
theorem dX1_likelySet_4 : decode cX1_likelySet 4 = .ok (.getfield 12, 3) := by decide +kernel
theorem dX1_likelySet_7 : decode cX1_likelySet 7 = .ok (.invokevirtual 28, 3) := by decide +kernel
theorem dX1_likelySet_10 : decode cX1_likelySet 10 = .ok (.istore 5, 2) := by decide +kernel
theorem dX1_likelySet_12 : decode cX1_likelySet 12 = .ok (.iconst 0, 1) := by decide +kernel
theorem dX1_likelySet_13 : decode cX1_likelySet 13 = .ok (.istore 6, 2) := by decide +kernel
theorem dX1_likelySet_15 : decode cX1_likelySet 15 = .ok (.iload 6, 2) := by decide +kernel
theorem dX1_likelySet_17 : decode cX1_likelySet 17 = .ok (.iload 5, 2) := by decide +kernel
theorem dX1_likelySet_19 : decode cX1_likelySet 19 = .ok (.if_icmp .ge 37, 3) := by decide +kernel
theorem dX1_likelySet_22 : decode cX1_likelySet 22 = .ok (.aload_n 0, 1) := by decide +kernel
theorem dX1_likelySet_23 : decode cX1_likelySet 23 = .ok (.getfield 12, 3) := by decide +kernel
theorem dX1_likelySet_26 : decode cX1_likelySet 26 = .ok (.iload 6, 2) := by decide +kernel
theorem dX1_likelySet_28 : decode cX1_likelySet 28 = .ok (.invokevirtual 32, 3) := by decide +kernel
theorem dX1_likelySet_31 : decode cX1_likelySet 31 = .ok (.iload_n 1, 1) := by decide +kernel
theorem dX1_likelySet_32 : decode cX1_likelySet 32 = .ok (.ishr, 1) := by decide +kernel
theorem dX1_likelySet_33 : decode cX1_likelySet 33 = .ok (.iconst 1, 1) := by decide +kernel
theorem dX1_likelySet_34 : decode cX1_likelySet 34 = .ok (.iand, 1) := by decide +kernel
theorem dX1_likelySet_35 : decode cX1_likelySet 35 = .ok (.ifCond .eq 15, 3) := by decide +kernel
theorem dX1_likelySet_38 : decode cX1_likelySet 38 = .ok (.iload 4, 2) := by decide +kernel
theorem dX1_likelySet_40 : decode cX1_likelySet 40 = .ok (.aload_n 0, 1) := by decide +kernel
theorem dX1_likelySet_41 : decode cX1_likelySet 41 = .ok (.iload 6, 2) := by decide +kernel
theorem dX1_likelySet_43 : decode cX1_likelySet 43 = .ok (.iload_n 2, 1) := by decide +kernel
theorem dX1_likelySet_44 : decode cX1_likelySet 44 = .ok (.invokevirtual 117, 3) := by decide +kernel
theorem dX1_likelySet_47 : decode cX1_likelySet 47 = .ok (.iadd, 1) := by decide +kernel
theorem dX1_likelySet_48 : decode cX1_likelySet 48 = .ok (.istore 4, 2) := by decide +kernel
theorem dX1_likelySet_50 : decode cX1_likelySet 50 = .ok (.iinc 6 1, 3) := by decide +kernel
theorem dX1_likelySet_53 : decode cX1_likelySet 53 = .ok (.goto (-38), 3) := by decide +kernel
theorem dX1_likelySet_56 : decode cX1_likelySet 56 = .ok (.iconst 1, 1) := by decide +kernel
theorem dX1_likelySet_57 : decode cX1_likelySet 57 = .ok (.istore 6, 2) := by decide +kernel
theorem dX1_likelySet_59 : decode cX1_likelySet 59 = .ok (.iconst 0, 1) := by decide +kernel
theorem dX1_likelySet_60 : decode cX1_likelySet 60 = .ok (.istore 7, 2) := by decide +kernel
theorem dX1_likelySet_62 : decode cX1_likelySet 62 = .ok (.iload 7, 2) := by decide +kernel
theorem dX1_likelySet_64 : decode cX1_likelySet 64 = .ok (.aload_n 0, 1) := by decide +kernel
theorem dX1_likelySet_65 : decode cX1_likelySet 65 = .ok (.getfield 12, 3) := by decide +kernel
theorem dX1_likelySet_68 : decode cX1_likelySet 68 = .ok (.getfield 91, 3) := by decide +kernel
theorem dX1_likelySet_71 : decode cX1_likelySet 71 = .ok (.if_icmp .ge 16, 3) := by decide +kernel
theorem dX1_likelySet_74 : decode cX1_likelySet 74 = .ok (.iload 6, 2) := by decide +kernel
theorem dX1_likelySet_76 : decode cX1_likelySet 76 = .ok (.bipush 10, 2) := by decide +kernel
theorem dX1_likelySet_78 : decode cX1_likelySet 78 = .ok (.imul, 1) := by decide +kernel
theorem dX1_likelySet_79 : decode cX1_likelySet 79 = .ok (.istore 6, 2) := by decide +kernel
theorem dX1_likelySet_81 : decode cX1_likelySet 81 = .ok (.iinc 7 1, 3) := by decide +kernel
theorem dX1_likelySet_84 : decode cX1_likelySet 84 = .ok (.goto (-22), 3) := by decide +kernel
theorem dX1_likelySet_87 : decode cX1_likelySet 87 = .ok (.iload 4, 2) := by decide +kernel
theorem dX1_likelySet_89 : decode cX1_likelySet 89 = .ok (.iload 6, 2) := by decide +kernel
theorem dX1_likelySet_91 : decode cX1_likelySet 91 = .ok (.invokestatic 65, 3) := by decide +kernel
theorem dX1_likelySet_94 : decode cX1_likelySet 94 = .ok (.istore 7, 2) := by decide +kernel
theorem dX1_likelySet_96 : decode cX1_likelySet 96 = .ok (.iload_n 3, 1) := by decide +kernel
theorem dX1_likelySet_97 : decode cX1_likelySet 97 = .ok (.ifCond .eq 8, 3) := by decide +kernel
theorem dX1_likelySet_100 : decode cX1_likelySet 100 = .ok (.iload 4, 2) := by decide +kernel
theorem dX1_likelySet_102 : decode cX1_likelySet 102 = .ok (.goto 5, 3) := by decide +kernel
theorem dX1_likelySet_105 : decode cX1_likelySet 105 = .ok (.iload 6, 2) := by decide +kernel
theorem dX1_likelySet_107 : decode cX1_likelySet 107 = .ok (.istore 8, 2) := by decide +kernel
theorem dX1_likelySet_109 : decode cX1_likelySet 109 = .ok (.iload 7, 2) := by decide +kernel
theorem dX1_likelySet_111 : decode cX1_likelySet 111 = .ok (.ifCond .le 11, 3) := by decide +kernel
theorem dX1_likelySet_114 : decode cX1_likelySet 114 = .ok (.iload 8, 2) := by decide +kernel
theorem dX1_likelySet_116 : decode cX1_likelySet 116 = .ok (.iload 7, 2) := by decide +kernel
theorem dX1_likelySet_118 : decode cX1_likelySet 118 = .ok (.idiv, 1) := by decide +kernel
theorem dX1_likelySet_119 : decode cX1_likelySet 119 = .ok (.goto 5, 3) := by decide +kernel
theorem dX1_likelySet_122 : decode cX1_likelySet 122 = .ok (.iload 8, 2) := by decide +kernel
theorem dX1_likelySet_124 : decode cX1_likelySet 124 = .ok (.ireturn, 1) := by decide +kernel
def sm_X1_likelySet_62 (K15 : Nat → Int32 → Int32 → Int32 → Int32 → Int32 → Int32 → aw_H → Prop) (K62 : Nat → Int32 → Int32 → Int32 → Int32 → aw_H → Prop) (Q : aw_R) (p0 : Nat) (x3 : Int32) (x4 : Int32) (x6 : Int32) (x7 : Int32) (h : aw_H) : Prop :=
  sg_R h p0 1 0 fun q1 => sg_I h q1 0 0 fun v2 => if v2 ≤ x7 then (tr_X1_commonDivisor [.int x4, .int x6] h fun r4 h3 => sr_I r4 fun v5 => if x3 = 0 then (if v5 ≤ 0 then (Q (some (.int x6)) h3) else (¬ v5 = 0 ∧ (Q (some (.int (x6 / v5))) h3))) else (if v5 ≤ 0 then (Q (some (.int x4)) h3) else (¬ v5 = 0 ∧ (Q (some (.int (x4 / v5))) h3)))) else (K62 p0 x3 x4 (x6 * 10) (x7 + 1) h)
set_option maxRecDepth 100000 in
set_option maxHeartbeats 4000000 in
theorem bl_X1_likelySet_62 {X : aw_X} {Q : aw_R} (C : aw_C X cX1_likelySet RX1 9 4) (Z : aw_Z X cX1_likelySet (some .int) Q) (p0 : Nat) (x3 : Int32) (x4 : Int32) (x6 : Int32) (x7 : Int32) (h : aw_H) (hh : sm_X1_likelySet_62 (fun (p0 : Nat) (x1 : Int32) (x2 : Int32) (x3 : Int32) (x4 : Int32) (x5 : Int32) (x6 : Int32) (h : aw_H) => Sat X 15 [.ref p0, .int x1, .int x2, .int x3, .int x4, .int x5, .int x6, Value.null, Value.null] [] h) (fun (p0 : Nat) (x3 : Int32) (x4 : Int32) (x6 : Int32) (x7 : Int32) (h : aw_H) => Sat X 62 [.ref p0, Value.null, Value.null, .int x3, .int x4, Value.null, .int x6, .int x7, Value.null] [] h) Q p0 x3 x4 x6 x7 h) : Sat X 62 [.ref p0, Value.null, Value.null, .int x3, .int x4, Value.null, .int x6, .int x7, Value.null] [] h := by
  unfold sm_X1_likelySet_62 at hh
  refine ow_iload C dX1_likelySet_62 rfl ?_
  refine ow_aload_n C dX1_likelySet_64 rfl rfl ?_
  refine ow_getR (ci := 1) (k := 0) (T := TX1) C rfl igX1 (by decide) kw_199 dX1_likelySet_65 hh (fun q1 hh => ?_)
  refine ow_getI (ci := 0) (k := 0) (T := TX0) C rfl igX0 (by decide) kw_250 dX1_likelySet_68 hh (fun v2 hh => ?_)
  refine ow_icmp_ge (tgt := 87) C dX1_likelySet_71 (by decide) hh (fun hh => ?_) (fun hh => ?_)
  · skip
    refine ow_iload C dX1_likelySet_87 rfl ?_
    refine ow_iload C dX1_likelySet_89 rfl ?_
    refine ow_callS C (cs_X1_commonDivisor _) (Nat.le_of_ble_eq_true rfl) kw_217 dX1_likelySet_91 (as := [.int x4, .int x6]) (st := []) rfl rfl (Nat.le_of_ble_eq_true rfl) hh (fun r4 h3 hq => ?_)
    obtain ⟨v5, rfl, hh⟩ := sr_I_e hq
    show Sat X 94 [.ref p0, Value.null, Value.null, .int x3, .int x4, Value.null, .int x6, .int x7, Value.null] [.int v5] h3
    refine ow_istore (L' := [.ref p0, Value.null, Value.null, .int x3, .int x4, Value.null, .int x6, .int v5, Value.null]) C dX1_likelySet_94 (by decide) rfl ?_
    refine ow_iload_n C dX1_likelySet_96 rfl rfl ?_
    refine ow_if_eq (tgt := 105) C dX1_likelySet_97 (by decide) hh (fun hh => ?_) (fun hh => ?_)
    · skip
      refine ow_iload C dX1_likelySet_105 rfl ?_
      refine ow_istore (L' := [.ref p0, Value.null, Value.null, .int x3, .int x4, Value.null, .int x6, .int v5, .int x6]) C dX1_likelySet_107 (by decide) rfl ?_
      refine ow_iload C dX1_likelySet_109 rfl ?_
      refine ow_if_le (tgt := 122) C dX1_likelySet_111 (by decide) hh (fun hh => ?_) (fun hh => ?_)
      · skip
        refine ow_iload C dX1_likelySet_122 rfl ?_
        exact ow_iret Z dX1_likelySet_124 trivial hh
      · skip
        refine ow_iload C dX1_likelySet_114 rfl ?_
        refine ow_iload C dX1_likelySet_116 rfl ?_
        refine ow_idiv C dX1_likelySet_118 hh (fun hh => ?_)
        refine ow_goto (tgt := 124) C dX1_likelySet_119 (by decide) ?_
        exact ow_iret Z dX1_likelySet_124 trivial hh
    · skip
      refine ow_iload C dX1_likelySet_100 rfl ?_
      refine ow_goto (tgt := 107) C dX1_likelySet_102 (by decide) ?_
      refine ow_istore (L' := [.ref p0, Value.null, Value.null, .int x3, .int x4, Value.null, .int x6, .int v5, .int x4]) C dX1_likelySet_107 (by decide) rfl ?_
      refine ow_iload C dX1_likelySet_109 rfl ?_
      refine ow_if_le (tgt := 122) C dX1_likelySet_111 (by decide) hh (fun hh => ?_) (fun hh => ?_)
      · skip
        refine ow_iload C dX1_likelySet_122 rfl ?_
        exact ow_iret Z dX1_likelySet_124 trivial hh
      · skip
        refine ow_iload C dX1_likelySet_114 rfl ?_
        refine ow_iload C dX1_likelySet_116 rfl ?_
        refine ow_idiv C dX1_likelySet_118 hh (fun hh => ?_)
        refine ow_goto (tgt := 124) C dX1_likelySet_119 (by decide) ?_
        exact ow_iret Z dX1_likelySet_124 trivial hh
  · skip
    refine ow_iload C dX1_likelySet_74 rfl ?_
    refine ow_bipush (v := 10) C dX1_likelySet_76 rfl ?_
    refine ow_imul C dX1_likelySet_78 ?_
    refine ow_istore (L' := [.ref p0, Value.null, Value.null, .int x3, .int x4, Value.null, .int (x6 * 10), .int x7, Value.null]) C dX1_likelySet_79 (by decide) rfl ?_
    refine ow_iinc (v := x7 + 1) (L' := [.ref p0, Value.null, Value.null, .int x3, .int x4, Value.null, .int (x6 * 10), .int (x7 + 1), Value.null]) C dX1_likelySet_81 rfl rfl (by decide) rfl ?_
    refine ow_goto (tgt := 62) C dX1_likelySet_84 (by decide) ?_
    exact Sat.mask hh (mk_y (mk_n (mk_n (mk_y (mk_y (mk_n (mk_y (mk_y (mk_n mk_0)))))))))
def sm_X1_likelySet_15 (K15 : Nat → Int32 → Int32 → Int32 → Int32 → Int32 → Int32 → aw_H → Prop) (K62 : Nat → Int32 → Int32 → Int32 → Int32 → aw_H → Prop) (Q : aw_R) (p0 : Nat) (x1 : Int32) (x2 : Int32) (x3 : Int32) (x4 : Int32) (x5 : Int32) (x6 : Int32) (h : aw_H) : Prop :=
  if x5 ≤ x6 then (K62 p0 x3 x4 1 0 h) else (sg_R h p0 1 0 fun q1 => sv_O h q1 0 (tr_X0_run [.ref q1, .int x6] h fun r3 h2 => sr_I r3 fun v4 => if ((v4 >>> (x1 &&& 31)) &&& 1) = 0 then (K15 p0 x1 x2 x3 x4 x5 (x6 + 1) h2) else (sv_O h2 p0 1 (tr_X1_weight [.ref p0, .int x6, .int x2] h2 fun r6 h5 => sr_I r6 fun v7 => K15 p0 x1 x2 x3 (x4 + v7) x5 (x6 + 1) h5))))
set_option maxRecDepth 100000 in
set_option maxHeartbeats 4000000 in
theorem bl_X1_likelySet_15 {X : aw_X} {Q : aw_R} (C : aw_C X cX1_likelySet RX1 9 4) (Z : aw_Z X cX1_likelySet (some .int) Q) (p0 : Nat) (x1 : Int32) (x2 : Int32) (x3 : Int32) (x4 : Int32) (x5 : Int32) (x6 : Int32) (h : aw_H) (hh : sm_X1_likelySet_15 (fun (p0 : Nat) (x1 : Int32) (x2 : Int32) (x3 : Int32) (x4 : Int32) (x5 : Int32) (x6 : Int32) (h : aw_H) => Sat X 15 [.ref p0, .int x1, .int x2, .int x3, .int x4, .int x5, .int x6, Value.null, Value.null] [] h) (fun (p0 : Nat) (x3 : Int32) (x4 : Int32) (x6 : Int32) (x7 : Int32) (h : aw_H) => Sat X 62 [.ref p0, Value.null, Value.null, .int x3, .int x4, Value.null, .int x6, .int x7, Value.null] [] h) Q p0 x1 x2 x3 x4 x5 x6 h) : Sat X 15 [.ref p0, .int x1, .int x2, .int x3, .int x4, .int x5, .int x6, Value.null, Value.null] [] h := by
  unfold sm_X1_likelySet_15 at hh
  refine ow_iload C dX1_likelySet_15 rfl ?_
  refine ow_iload C dX1_likelySet_17 rfl ?_
  refine ow_icmp_ge (tgt := 56) C dX1_likelySet_19 (by decide) hh (fun hh => ?_) (fun hh => ?_)
  · skip
    refine ow_iconst (v := 1) C dX1_likelySet_56 rfl ?_
    refine ow_istore (L' := [.ref p0, .int x1, .int x2, .int x3, .int x4, .int x5, .int 1, Value.null, Value.null]) C dX1_likelySet_57 (by decide) rfl ?_
    refine ow_iconst (v := 0) C dX1_likelySet_59 rfl ?_
    refine ow_istore (L' := [.ref p0, .int x1, .int x2, .int x3, .int x4, .int x5, .int 1, .int 0, Value.null]) C dX1_likelySet_60 (by decide) rfl ?_
    exact Sat.mask hh (mk_y (mk_n (mk_n (mk_y (mk_y (mk_n (mk_y (mk_y (mk_n mk_0)))))))))
  · skip
    refine ow_aload_n C dX1_likelySet_22 rfl rfl ?_
    refine ow_getR (ci := 1) (k := 0) (T := TX1) C rfl igX1 (by decide) kw_199 dX1_likelySet_23 hh (fun q1 hh => ?_)
    refine ow_iload C dX1_likelySet_26 rfl ?_
    refine ow_callV C (cv_X0_run _) (Nat.le_of_ble_eq_true rfl) kw_200 dX1_likelySet_28 (as := [.int x6]) (st := []) rfl rfl (Nat.le_of_ble_eq_true rfl) hh (fun r3 h2 hq => ?_)
    obtain ⟨v4, rfl, hh⟩ := sr_I_e hq
    show Sat X 31 [.ref p0, .int x1, .int x2, .int x3, .int x4, .int x5, .int x6, Value.null, Value.null] [.int v4] h2
    refine ow_iload_n C dX1_likelySet_31 rfl rfl ?_
    refine ow_ishr C dX1_likelySet_32 ?_
    refine ow_iconst (v := 1) C dX1_likelySet_33 rfl ?_
    refine ow_iand C dX1_likelySet_34 ?_
    refine ow_if_eq (tgt := 50) C dX1_likelySet_35 (by decide) hh (fun hh => ?_) (fun hh => ?_)
    · skip
      refine ow_iinc (v := x6 + 1) (L' := [.ref p0, .int x1, .int x2, .int x3, .int x4, .int x5, .int (x6 + 1), Value.null, Value.null]) C dX1_likelySet_50 rfl rfl (by decide) rfl ?_
      refine ow_goto (tgt := 15) C dX1_likelySet_53 (by decide) ?_
      exact Sat.mask hh (mk_y (mk_y (mk_y (mk_y (mk_y (mk_y (mk_y (mk_n (mk_n mk_0)))))))))
    · skip
      refine ow_iload C dX1_likelySet_38 rfl ?_
      refine ow_aload_n C dX1_likelySet_40 rfl rfl ?_
      refine ow_iload C dX1_likelySet_41 rfl ?_
      refine ow_iload_n C dX1_likelySet_43 rfl rfl ?_
      refine ow_callV C (cv_X1_weight _) (Nat.le_of_ble_eq_true rfl) kw_285 dX1_likelySet_44 (as := [.int x6, .int x2]) (st := [.int x4]) rfl rfl (Nat.le_of_ble_eq_true rfl) hh (fun r6 h5 hq => ?_)
      obtain ⟨v7, rfl, hh⟩ := sr_I_e hq
      show Sat X 47 [.ref p0, .int x1, .int x2, .int x3, .int x4, .int x5, .int x6, Value.null, Value.null] [.int v7, .int x4] h5
      refine ow_iadd C dX1_likelySet_47 ?_
      refine ow_istore (L' := [.ref p0, .int x1, .int x2, .int x3, .int (x4 + v7), .int x5, .int x6, Value.null, Value.null]) C dX1_likelySet_48 (by decide) rfl ?_
      refine ow_iinc (v := x6 + 1) (L' := [.ref p0, .int x1, .int x2, .int x3, .int (x4 + v7), .int x5, .int (x6 + 1), Value.null, Value.null]) C dX1_likelySet_50 rfl rfl (by decide) rfl ?_
      refine ow_goto (tgt := 15) C dX1_likelySet_53 (by decide) ?_
      exact Sat.mask hh (mk_y (mk_y (mk_y (mk_y (mk_y (mk_y (mk_y (mk_n (mk_n mk_0)))))))))
def sm_X1_likelySet_0 (K15 : Nat → Int32 → Int32 → Int32 → Int32 → Int32 → Int32 → aw_H → Prop) (K62 : Nat → Int32 → Int32 → Int32 → Int32 → aw_H → Prop) (Q : aw_R) (p0 : Nat) (x1 : Int32) (x2 : Int32) (x3 : Int32) (h : aw_H) : Prop :=
  sg_R h p0 1 0 fun q1 => sv_O h q1 0 (tr_X0_states [.ref q1] h fun r3 h2 => sr_I r3 fun v4 => K15 p0 x1 x2 x3 0 v4 0 h2)
set_option maxRecDepth 100000 in
set_option maxHeartbeats 4000000 in
theorem bl_X1_likelySet_0 {X : aw_X} {Q : aw_R} (C : aw_C X cX1_likelySet RX1 9 4) (Z : aw_Z X cX1_likelySet (some .int) Q) (p0 : Nat) (x1 : Int32) (x2 : Int32) (x3 : Int32) (h : aw_H) (hh : sm_X1_likelySet_0 (fun (p0 : Nat) (x1 : Int32) (x2 : Int32) (x3 : Int32) (x4 : Int32) (x5 : Int32) (x6 : Int32) (h : aw_H) => Sat X 15 [.ref p0, .int x1, .int x2, .int x3, .int x4, .int x5, .int x6, Value.null, Value.null] [] h) (fun (p0 : Nat) (x3 : Int32) (x4 : Int32) (x6 : Int32) (x7 : Int32) (h : aw_H) => Sat X 62 [.ref p0, Value.null, Value.null, .int x3, .int x4, Value.null, .int x6, .int x7, Value.null] [] h) Q p0 x1 x2 x3 h) : Sat X 0 [.ref p0, .int x1, .int x2, .int x3, Value.null, Value.null, Value.null, Value.null, Value.null] [] h := by
  unfold sm_X1_likelySet_0 at hh
  refine ow_iconst (v := 0) C dX1_likelySet_0 rfl ?_
  refine ow_istore (L' := [.ref p0, .int x1, .int x2, .int x3, .int 0, Value.null, Value.null, Value.null, Value.null]) C dX1_likelySet_1 (by decide) rfl ?_
  refine ow_aload_n C dX1_likelySet_3 rfl rfl ?_
  refine ow_getR (ci := 1) (k := 0) (T := TX1) C rfl igX1 (by decide) kw_199 dX1_likelySet_4 hh (fun q1 hh => ?_)
  refine ow_callV C (cv_X0_states _) (Nat.le_of_ble_eq_true rfl) kw_201 dX1_likelySet_7 (as := []) (st := []) rfl rfl (Nat.le_of_ble_eq_true rfl) hh (fun r3 h2 hq => ?_)
  obtain ⟨v4, rfl, hh⟩ := sr_I_e hq
  show Sat X 10 [.ref p0, .int x1, .int x2, .int x3, .int 0, Value.null, Value.null, Value.null, Value.null] [.int v4] h2
  refine ow_istore (L' := [.ref p0, .int x1, .int x2, .int x3, .int 0, .int v4, Value.null, Value.null, Value.null]) C dX1_likelySet_10 (by decide) rfl ?_
  refine ow_iconst (v := 0) C dX1_likelySet_12 rfl ?_
  refine ow_istore (L' := [.ref p0, .int x1, .int x2, .int x3, .int 0, .int v4, .int 0, Value.null, Value.null]) C dX1_likelySet_13 (by decide) rfl ?_
  exact Sat.mask hh (mk_y (mk_y (mk_y (mk_y (mk_y (mk_y (mk_y (mk_n (mk_n mk_0)))))))))
def tr_X1_likelySet : aw_T := fun as h Q => ∃ (p0 : Nat) (x1 : Int32) (x2 : Int32) (x3 : Int32), as = [.ref p0, .int x1, .int x2, .int x3] ∧ (∀ (K15 : Nat → Int32 → Int32 → Int32 → Int32 → Int32 → Int32 → aw_H → Prop) (K62 : Nat → Int32 → Int32 → Int32 → Int32 → aw_H → Prop), (∀ (p0 : Nat) (x1 : Int32) (x2 : Int32) (x3 : Int32) (x4 : Int32) (x5 : Int32) (x6 : Int32) (h : aw_H), sm_X1_likelySet_15 K15 K62 Q p0 x1 x2 x3 x4 x5 x6 h → K15 p0 x1 x2 x3 x4 x5 x6 h) → (∀ (p0 : Nat) (x3 : Int32) (x4 : Int32) (x6 : Int32) (x7 : Int32) (h : aw_H), sm_X1_likelySet_62 K15 K62 Q p0 x3 x4 x6 x7 h → K62 p0 x3 x4 x6 x7 h) → sm_X1_likelySet_0 K15 K62 Q p0 x1 x2 x3 h)
theorem tq_X1_likelySet {p0 : Nat} {x1 : Int32} {x2 : Int32} {x3 : Int32} {h : aw_H} {Q : aw_R} : tr_X1_likelySet [.ref p0, .int x1, .int x2, .int x3] h Q ↔ (∀ (K15 : Nat → Int32 → Int32 → Int32 → Int32 → Int32 → Int32 → aw_H → Prop) (K62 : Nat → Int32 → Int32 → Int32 → Int32 → aw_H → Prop), (∀ (p0 : Nat) (x1 : Int32) (x2 : Int32) (x3 : Int32) (x4 : Int32) (x5 : Int32) (x6 : Int32) (h : aw_H), sm_X1_likelySet_15 K15 K62 Q p0 x1 x2 x3 x4 x5 x6 h → K15 p0 x1 x2 x3 x4 x5 x6 h) → (∀ (p0 : Nat) (x3 : Int32) (x4 : Int32) (x6 : Int32) (x7 : Int32) (h : aw_H), sm_X1_likelySet_62 K15 K62 Q p0 x3 x4 x6 x7 h → K62 p0 x3 x4 x6 x7 h) → sm_X1_likelySet_0 K15 K62 Q p0 x1 x2 x3 h) := by
  constructor
  · rintro ⟨_, _, _, _, as0, hh⟩
    cases as0
    exact hh
  · intro hh
    exact ⟨_, _, _, _, rfl, hh⟩
theorem ct_X1_likelySet (E : aw_F) : CT E yX1_likelySet cX1_likelySet 9 (some .int) 4 tr_X1_likelySet := by
  refine ct_of (by decide) ?_
  intro X Q as h hE C Z hG
  subst hE
  obtain ⟨p0, x1, x2, x3, rfl, hh⟩ := hG
  refine ⟨[.ref p0, .int x1, .int x2, .int x3, Value.null, Value.null, Value.null, Value.null, Value.null], rfl, Nat.le_of_ble_eq_true rfl, ?_⟩
  exact bl_X1_likelySet_0 C Z p0 x1 x2 x3 h (hh (fun (p0 : Nat) (x1 : Int32) (x2 : Int32) (x3 : Int32) (x4 : Int32) (x5 : Int32) (x6 : Int32) (h : aw_H) => Sat X 15 [.ref p0, .int x1, .int x2, .int x3, .int x4, .int x5, .int x6, Value.null, Value.null] [] h) (fun (p0 : Nat) (x3 : Int32) (x4 : Int32) (x6 : Int32) (x7 : Int32) (h : aw_H) => Sat X 62 [.ref p0, Value.null, Value.null, .int x3, .int x4, Value.null, .int x6, .int x7, Value.null] [] h) (fun p0 x1 x2 x3 x4 x5 x6 h hh => bl_X1_likelySet_15 C Z p0 x1 x2 x3 x4 x5 x6 h hh) (fun p0 x3 x4 x6 x7 h hh => bl_X1_likelySet_62 C Z p0 x3 x4 x6 x7 h hh))
theorem cv_X1_likelySet (E : aw_F) : CV E yX1_likelySet cX1_likelySet 9 (some .int) 4 3 1 tr_X1_likelySet := ⟨ct_X1_likelySet E, by decide, kw_287, kw_288, kw_203, kw_286, by decide +kernel, _, _, rfl⟩
theorem dX1_tellsOf_0 : decode cX1_tellsOf 0 = .ok (.iconst 0, 1) := by decide +kernel
theorem dX1_tellsOf_1 : decode cX1_tellsOf 1 = .ok (.istore 7, 2) := by decide +kernel
theorem dX1_tellsOf_3 : decode cX1_tellsOf 3 = .ok (.iload 7, 2) := by decide +kernel
theorem dX1_tellsOf_5 : decode cX1_tellsOf 5 = .ok (.iload 4, 2) := by decide +kernel
theorem dX1_tellsOf_7 : decode cX1_tellsOf 7 = .ok (.if_icmp .ge 40, 3) := by decide +kernel
theorem dX1_tellsOf_10 : decode cX1_tellsOf 10 = .ok (.aload_n 1, 1) := by decide +kernel
theorem dX1_tellsOf_11 : decode cX1_tellsOf 11 = .ok (.getfield 137, 3) := by decide +kernel
theorem dX1_tellsOf_14 : decode cX1_tellsOf 14 = .ok (.iload_n 2, 1) := by decide +kernel
theorem dX1_tellsOf_15 : decode cX1_tellsOf 15 = .ok (.iload 7, 2) := by decide +kernel
theorem dX1_tellsOf_17 : decode cX1_tellsOf 17 = .ok (.iadd, 1) := by decide +kernel
theorem dX1_tellsOf_18 : decode cX1_tellsOf 18 = .ok (.laload, 1) := by decide +kernel
theorem dX1_tellsOf_19 : decode cX1_tellsOf 19 = .ok (.aload_n 0, 1) := by decide +kernel
theorem dX1_tellsOf_20 : decode cX1_tellsOf 20 = .ok (.getfield 12, 3) := by decide +kernel
theorem dX1_tellsOf_23 : decode cX1_tellsOf 23 = .ok (.iload_n 3, 1) := by decide +kernel
theorem dX1_tellsOf_24 : decode cX1_tellsOf 24 = .ok (.iload 7, 2) := by decide +kernel
theorem dX1_tellsOf_26 : decode cX1_tellsOf 26 = .ok (.iadd, 1) := by decide +kernel
theorem dX1_tellsOf_27 : decode cX1_tellsOf 27 = .ok (.iload 5, 2) := by decide +kernel
theorem dX1_tellsOf_29 : decode cX1_tellsOf 29 = .ok (.iload 6, 2) := by decide +kernel
theorem dX1_tellsOf_31 : decode cX1_tellsOf 31 = .ok (.invokevirtual 143, 3) := by decide +kernel
theorem dX1_tellsOf_34 : decode cX1_tellsOf 34 = .ok (.i2l, 1) := by decide +kernel
theorem dX1_tellsOf_35 : decode cX1_tellsOf 35 = .ok (.lcmp, 1) := by decide +kernel
theorem dX1_tellsOf_36 : decode cX1_tellsOf 36 = .ok (.ifCond .eq 5, 3) := by decide +kernel
theorem dX1_tellsOf_39 : decode cX1_tellsOf 39 = .ok (.iconst 0, 1) := by decide +kernel
theorem dX1_tellsOf_40 : decode cX1_tellsOf 40 = .ok (.ireturn, 1) := by decide +kernel
theorem dX1_tellsOf_41 : decode cX1_tellsOf 41 = .ok (.iinc 7 1, 3) := by decide +kernel
theorem dX1_tellsOf_44 : decode cX1_tellsOf 44 = .ok (.goto (-41), 3) := by decide +kernel
theorem dX1_tellsOf_47 : decode cX1_tellsOf 47 = .ok (.iconst 1, 1) := by decide +kernel
theorem dX1_tellsOf_48 : decode cX1_tellsOf 48 = .ok (.ireturn, 1) := by decide +kernel
def sm_X1_tellsOf_3 (K3 : Nat → Nat → Int32 → Int32 → Int32 → Int32 → Int32 → Int32 → aw_H → Prop) (Q : aw_R) (p0 : Nat) (p1 : Nat) (x2 : Int32) (x3 : Int32) (x4 : Int32) (x5 : Int32) (x6 : Int32) (x7 : Int32) (h : aw_H) : Prop :=
  if x4 ≤ x7 then (Q (some (.int 1)) h) else (sg_R h p1 3 3 fun q1 => sa_L h q1 (x2 + x7) fun u2 => sg_R h p0 1 0 fun q3 => sv_O h q3 0 (tr_X0_runWith [.ref q3, .int (x3 + x7), .int x5, .int x6] h fun r5 h4 => sr_I r5 fun v6 => if (lg_cmp u2 (Int32.toInt64 v6)) = 0 then (K3 p0 p1 x2 x3 x4 x5 x6 (x7 + 1) h4) else (Q (some (.int 0)) h4)))
set_option maxRecDepth 100000 in
set_option maxHeartbeats 4000000 in
theorem bl_X1_tellsOf_3 {X : aw_X} {Q : aw_R} (C : aw_C X cX1_tellsOf RX1 8 4) (Z : aw_Z X cX1_tellsOf (some .boolean) Q) (p0 : Nat) (p1 : Nat) (x2 : Int32) (x3 : Int32) (x4 : Int32) (x5 : Int32) (x6 : Int32) (x7 : Int32) (h : aw_H) (hh : sm_X1_tellsOf_3 (fun (p0 : Nat) (p1 : Nat) (x2 : Int32) (x3 : Int32) (x4 : Int32) (x5 : Int32) (x6 : Int32) (x7 : Int32) (h : aw_H) => Sat X 3 [.ref p0, .ref p1, .int x2, .int x3, .int x4, .int x5, .int x6, .int x7] [] h) Q p0 p1 x2 x3 x4 x5 x6 x7 h) : Sat X 3 [.ref p0, .ref p1, .int x2, .int x3, .int x4, .int x5, .int x6, .int x7] [] h := by
  unfold sm_X1_tellsOf_3 at hh
  refine ow_iload C dX1_tellsOf_3 rfl ?_
  refine ow_iload C dX1_tellsOf_5 rfl ?_
  refine ow_icmp_ge (tgt := 47) C dX1_tellsOf_7 (by decide) hh (fun hh => ?_) (fun hh => ?_)
  · skip
    refine ow_iconst (v := 1) C dX1_tellsOf_47 rfl ?_
    exact ow_iret Z dX1_tellsOf_48 (Or.inr rfl) hh
  · skip
    refine ow_aload_n C dX1_tellsOf_10 rfl rfl ?_
    refine ow_getR (ci := 3) (k := 3) (T := TX4) C rfl igX4 (by decide) kw_289 dX1_tellsOf_11 hh (fun q1 hh => ?_)
    refine ow_iload_n C dX1_tellsOf_14 rfl rfl ?_
    refine ow_iload C dX1_tellsOf_15 rfl ?_
    refine ow_iadd C dX1_tellsOf_17 ?_
    refine ow_laload C dX1_tellsOf_18 hh (fun u2 hh => ?_)
    refine ow_aload_n C dX1_tellsOf_19 rfl rfl ?_
    refine ow_getR (ci := 1) (k := 0) (T := TX1) C rfl igX1 (by decide) kw_199 dX1_tellsOf_20 hh (fun q3 hh => ?_)
    refine ow_iload_n C dX1_tellsOf_23 rfl rfl ?_
    refine ow_iload C dX1_tellsOf_24 rfl ?_
    refine ow_iadd C dX1_tellsOf_26 ?_
    refine ow_iload C dX1_tellsOf_27 rfl ?_
    refine ow_iload C dX1_tellsOf_29 rfl ?_
    refine ow_callV C (cv_X0_runWith _) (Nat.le_of_ble_eq_true rfl) kw_290 dX1_tellsOf_31 (as := [.int (x3 + x7), .int x5, .int x6]) (st := [.long u2]) rfl rfl (Nat.le_of_ble_eq_true rfl) hh (fun r5 h4 hq => ?_)
    obtain ⟨v6, rfl, hh⟩ := sr_I_e hq
    show Sat X 34 [.ref p0, .ref p1, .int x2, .int x3, .int x4, .int x5, .int x6, .int x7] [.int v6, .long u2] h4
    refine ow_i2l C dX1_tellsOf_34 ?_
    refine ow_lcmp C dX1_tellsOf_35 ?_
    refine ow_if_eq (tgt := 41) C dX1_tellsOf_36 (by decide) hh (fun hh => ?_) (fun hh => ?_)
    · skip
      refine ow_iinc (v := x7 + 1) (L' := [.ref p0, .ref p1, .int x2, .int x3, .int x4, .int x5, .int x6, .int (x7 + 1)]) C dX1_tellsOf_41 rfl rfl (by decide) rfl ?_
      refine ow_goto (tgt := 3) C dX1_tellsOf_44 (by decide) ?_
      exact Sat.mask hh (mk_y (mk_y (mk_y (mk_y (mk_y (mk_y (mk_y (mk_y mk_0))))))))
    · skip
      refine ow_iconst (v := 0) C dX1_tellsOf_39 rfl ?_
      exact ow_iret Z dX1_tellsOf_40 (Or.inl rfl) hh
def sm_X1_tellsOf_0 (K3 : Nat → Nat → Int32 → Int32 → Int32 → Int32 → Int32 → Int32 → aw_H → Prop) (Q : aw_R) (p0 : Nat) (p1 : Nat) (x2 : Int32) (x3 : Int32) (x4 : Int32) (x5 : Int32) (x6 : Int32) (h : aw_H) : Prop :=
  K3 p0 p1 x2 x3 x4 x5 x6 0 h
set_option maxRecDepth 100000 in
set_option maxHeartbeats 4000000 in
theorem bl_X1_tellsOf_0 {X : aw_X} {Q : aw_R} (C : aw_C X cX1_tellsOf RX1 8 4) (Z : aw_Z X cX1_tellsOf (some .boolean) Q) (p0 : Nat) (p1 : Nat) (x2 : Int32) (x3 : Int32) (x4 : Int32) (x5 : Int32) (x6 : Int32) (h : aw_H) (hh : sm_X1_tellsOf_0 (fun (p0 : Nat) (p1 : Nat) (x2 : Int32) (x3 : Int32) (x4 : Int32) (x5 : Int32) (x6 : Int32) (x7 : Int32) (h : aw_H) => Sat X 3 [.ref p0, .ref p1, .int x2, .int x3, .int x4, .int x5, .int x6, .int x7] [] h) Q p0 p1 x2 x3 x4 x5 x6 h) : Sat X 0 [.ref p0, .ref p1, .int x2, .int x3, .int x4, .int x5, .int x6, Value.null] [] h := by
  unfold sm_X1_tellsOf_0 at hh
  refine ow_iconst (v := 0) C dX1_tellsOf_0 rfl ?_
  refine ow_istore (L' := [.ref p0, .ref p1, .int x2, .int x3, .int x4, .int x5, .int x6, .int 0]) C dX1_tellsOf_1 (by decide) rfl ?_
  exact Sat.mask hh (mk_y (mk_y (mk_y (mk_y (mk_y (mk_y (mk_y (mk_y mk_0))))))))
def tr_X1_tellsOf : aw_T := fun as h Q => ∃ (p0 : Nat) (p1 : Nat) (x2 : Int32) (x3 : Int32) (x4 : Int32) (x5 : Int32) (x6 : Int32), as = [.ref p0, .ref p1, .int x2, .int x3, .int x4, .int x5, .int x6] ∧ (∀ (K3 : Nat → Nat → Int32 → Int32 → Int32 → Int32 → Int32 → Int32 → aw_H → Prop), (∀ (p0 : Nat) (p1 : Nat) (x2 : Int32) (x3 : Int32) (x4 : Int32) (x5 : Int32) (x6 : Int32) (x7 : Int32) (h : aw_H), sm_X1_tellsOf_3 K3 Q p0 p1 x2 x3 x4 x5 x6 x7 h → K3 p0 p1 x2 x3 x4 x5 x6 x7 h) → sm_X1_tellsOf_0 K3 Q p0 p1 x2 x3 x4 x5 x6 h)
theorem tq_X1_tellsOf {p0 : Nat} {p1 : Nat} {x2 : Int32} {x3 : Int32} {x4 : Int32} {x5 : Int32} {x6 : Int32} {h : aw_H} {Q : aw_R} : tr_X1_tellsOf [.ref p0, .ref p1, .int x2, .int x3, .int x4, .int x5, .int x6] h Q ↔ (∀ (K3 : Nat → Nat → Int32 → Int32 → Int32 → Int32 → Int32 → Int32 → aw_H → Prop), (∀ (p0 : Nat) (p1 : Nat) (x2 : Int32) (x3 : Int32) (x4 : Int32) (x5 : Int32) (x6 : Int32) (x7 : Int32) (h : aw_H), sm_X1_tellsOf_3 K3 Q p0 p1 x2 x3 x4 x5 x6 x7 h → K3 p0 p1 x2 x3 x4 x5 x6 x7 h) → sm_X1_tellsOf_0 K3 Q p0 p1 x2 x3 x4 x5 x6 h) := by
  constructor
  · rintro ⟨_, _, _, _, _, _, _, as0, hh⟩
    cases as0
    exact hh
  · intro hh
    exact ⟨_, _, _, _, _, _, _, rfl, hh⟩
theorem ct_X1_tellsOf (E : aw_F) : CT E yX1_tellsOf cX1_tellsOf 8 (some .boolean) 4 tr_X1_tellsOf := by
  refine ct_of (by decide) ?_
  intro X Q as h hE C Z hG
  subst hE
  obtain ⟨p0, p1, x2, x3, x4, x5, x6, rfl, hh⟩ := hG
  refine ⟨[.ref p0, .ref p1, .int x2, .int x3, .int x4, .int x5, .int x6, Value.null], rfl, Nat.le_of_ble_eq_true rfl, ?_⟩
  exact bl_X1_tellsOf_0 C Z p0 p1 x2 x3 x4 x5 x6 h (hh (fun (p0 : Nat) (p1 : Nat) (x2 : Int32) (x3 : Int32) (x4 : Int32) (x5 : Int32) (x6 : Int32) (x7 : Int32) (h : aw_H) => Sat X 3 [.ref p0, .ref p1, .int x2, .int x3, .int x4, .int x5, .int x6, .int x7] [] h) (fun p0 p1 x2 x3 x4 x5 x6 x7 h hh => bl_X1_tellsOf_3 C Z p0 p1 x2 x3 x4 x5 x6 x7 h hh))
theorem cv_X1_tellsOf (E : aw_F) : CV E yX1_tellsOf cX1_tellsOf 8 (some .boolean) 4 6 1 tr_X1_tellsOf := ⟨ct_X1_tellsOf E, by decide, kw_292, kw_293, kw_203, kw_291, by decide +kernel, _, _, rfl⟩
theorem dX1_deathsBy_0 : decode cX1_deathsBy 0 = .ok (.iconst 0, 1) := by decide +kernel
theorem dX1_deathsBy_1 : decode cX1_deathsBy 1 = .ok (.istore 5, 2) := by decide +kernel
theorem dX1_deathsBy_3 : decode cX1_deathsBy 3 = .ok (.iconst 0, 1) := by decide +kernel
theorem dX1_deathsBy_4 : decode cX1_deathsBy 4 = .ok (.istore 6, 2) := by decide +kernel
theorem dX1_deathsBy_6 : decode cX1_deathsBy 6 = .ok (.iload 6, 2) := by decide +kernel
theorem dX1_deathsBy_8 : decode cX1_deathsBy 8 = .ok (.aload_n 0, 1) := by decide +kernel
theorem dX1_deathsBy_9 : decode cX1_deathsBy 9 = .ok (.getfield 12, 3) := by decide +kernel
theorem dX1_deathsBy_12 : decode cX1_deathsBy 12 = .ok (.getfield 72, 3) := by decide +kernel
theorem dX1_deathsBy_15 : decode cX1_deathsBy 15 = .ok (.if_icmp .ge 45, 3) := by decide +kernel
theorem dX1_deathsBy_18 : decode cX1_deathsBy 18 = .ok (.aload_n 0, 1) := by decide +kernel
theorem dX1_deathsBy_19 : decode cX1_deathsBy 19 = .ok (.aload_n 1, 1) := by decide +kernel
theorem dX1_deathsBy_20 : decode cX1_deathsBy 20 = .ok (.iload_n 2, 1) := by decide +kernel
theorem dX1_deathsBy_21 : decode cX1_deathsBy 21 = .ok (.iload_n 3, 1) := by decide +kernel
theorem dX1_deathsBy_22 : decode cX1_deathsBy 22 = .ok (.iload 4, 2) := by decide +kernel
theorem dX1_deathsBy_24 : decode cX1_deathsBy 24 = .ok (.iload 6, 2) := by decide +kernel
theorem dX1_deathsBy_26 : decode cX1_deathsBy 26 = .ok (.aload_n 0, 1) := by decide +kernel
theorem dX1_deathsBy_27 : decode cX1_deathsBy 27 = .ok (.getfield 12, 3) := by decide +kernel
theorem dX1_deathsBy_30 : decode cX1_deathsBy 30 = .ok (.getfield 75, 3) := by decide +kernel
theorem dX1_deathsBy_33 : decode cX1_deathsBy 33 = .ok (.iload 6, 2) := by decide +kernel
theorem dX1_deathsBy_35 : decode cX1_deathsBy 35 = .ok (.iaload, 1) := by decide +kernel
theorem dX1_deathsBy_36 : decode cX1_deathsBy 36 = .ok (.invokestatic 120, 3) := by decide +kernel
theorem dX1_deathsBy_39 : decode cX1_deathsBy 39 = .ok (.invokevirtual 123, 3) := by decide +kernel
theorem dX1_deathsBy_42 : decode cX1_deathsBy 42 = .ok (.ifCond .eq 12, 3) := by decide +kernel
theorem dX1_deathsBy_45 : decode cX1_deathsBy 45 = .ok (.iload 5, 2) := by decide +kernel
theorem dX1_deathsBy_47 : decode cX1_deathsBy 47 = .ok (.iconst 1, 1) := by decide +kernel
theorem dX1_deathsBy_48 : decode cX1_deathsBy 48 = .ok (.iload 6, 2) := by decide +kernel
theorem dX1_deathsBy_50 : decode cX1_deathsBy 50 = .ok (.ishl, 1) := by decide +kernel
theorem dX1_deathsBy_51 : decode cX1_deathsBy 51 = .ok (.ior, 1) := by decide +kernel
theorem dX1_deathsBy_52 : decode cX1_deathsBy 52 = .ok (.istore 5, 2) := by decide +kernel
theorem dX1_deathsBy_54 : decode cX1_deathsBy 54 = .ok (.iinc 6 1, 3) := by decide +kernel
theorem dX1_deathsBy_57 : decode cX1_deathsBy 57 = .ok (.goto (-51), 3) := by decide +kernel
theorem dX1_deathsBy_60 : decode cX1_deathsBy 60 = .ok (.iload 5, 2) := by decide +kernel
theorem dX1_deathsBy_62 : decode cX1_deathsBy 62 = .ok (.ireturn, 1) := by decide +kernel
def sm_X1_deathsBy_6 (K6 : Nat → Nat → Int32 → Int32 → Int32 → Int32 → Int32 → aw_H → Prop) (Q : aw_R) (p0 : Nat) (p1 : Nat) (x2 : Int32) (x3 : Int32) (x4 : Int32) (x5 : Int32) (x6 : Int32) (h : aw_H) : Prop :=
  sg_R h p0 1 0 fun q1 => sg_I h q1 0 1 fun v2 => if v2 ≤ x6 then (Q (some (.int x5)) h) else (sg_R h p0 1 0 fun q3 => sg_R h q3 0 2 fun q4 => sa_I h q4 x6 fun v5 => tr_X2_killed [.int v5] h fun r7 h6 => sr_I r7 fun v8 => sv_O h6 p0 1 (tr_X1_tellsOf [.ref p0, .ref p1, .int x2, .int x3, .int x4, .int x6, .int v8] h6 fun r10 h9 => sr_I r10 fun v11 => if v11 = 0 then (K6 p0 p1 x2 x3 x4 x5 (x6 + 1) h9) else (K6 p0 p1 x2 x3 x4 (x5 ||| ((1 : Int32) <<< (x6 &&& 31))) (x6 + 1) h9)))
set_option maxRecDepth 100000 in
set_option maxHeartbeats 4000000 in
theorem bl_X1_deathsBy_6 {X : aw_X} {Q : aw_R} (C : aw_C X cX1_deathsBy RX1 7 5) (Z : aw_Z X cX1_deathsBy (some .int) Q) (p0 : Nat) (p1 : Nat) (x2 : Int32) (x3 : Int32) (x4 : Int32) (x5 : Int32) (x6 : Int32) (h : aw_H) (hh : sm_X1_deathsBy_6 (fun (p0 : Nat) (p1 : Nat) (x2 : Int32) (x3 : Int32) (x4 : Int32) (x5 : Int32) (x6 : Int32) (h : aw_H) => Sat X 6 [.ref p0, .ref p1, .int x2, .int x3, .int x4, .int x5, .int x6] [] h) Q p0 p1 x2 x3 x4 x5 x6 h) : Sat X 6 [.ref p0, .ref p1, .int x2, .int x3, .int x4, .int x5, .int x6] [] h := by
  unfold sm_X1_deathsBy_6 at hh
  refine ow_iload C dX1_deathsBy_6 rfl ?_
  refine ow_aload_n C dX1_deathsBy_8 rfl rfl ?_
  refine ow_getR (ci := 1) (k := 0) (T := TX1) C rfl igX1 (by decide) kw_199 dX1_deathsBy_9 hh (fun q1 hh => ?_)
  refine ow_getI (ci := 0) (k := 1) (T := TX0) C rfl igX0 (by decide) kw_233 dX1_deathsBy_12 hh (fun v2 hh => ?_)
  refine ow_icmp_ge (tgt := 60) C dX1_deathsBy_15 (by decide) hh (fun hh => ?_) (fun hh => ?_)
  · skip
    refine ow_iload C dX1_deathsBy_60 rfl ?_
    exact ow_iret Z dX1_deathsBy_62 trivial hh
  · skip
    refine ow_aload_n C dX1_deathsBy_18 rfl rfl ?_
    refine ow_aload_n C dX1_deathsBy_19 rfl rfl ?_
    refine ow_iload_n C dX1_deathsBy_20 rfl rfl ?_
    refine ow_iload_n C dX1_deathsBy_21 rfl rfl ?_
    refine ow_iload C dX1_deathsBy_22 rfl ?_
    refine ow_iload C dX1_deathsBy_24 rfl ?_
    refine ow_aload_n C dX1_deathsBy_26 rfl rfl ?_
    refine ow_getR (ci := 1) (k := 0) (T := TX1) C rfl igX1 (by decide) kw_199 dX1_deathsBy_27 hh (fun q3 hh => ?_)
    refine ow_getR (ci := 0) (k := 2) (T := TX0) C rfl igX0 (by decide) kw_231 dX1_deathsBy_30 hh (fun q4 hh => ?_)
    refine ow_iload C dX1_deathsBy_33 rfl ?_
    refine ow_iaload C dX1_deathsBy_35 hh (fun v5 hh => ?_)
    refine ow_callS C (cs_X2_killed _) (Nat.le_of_ble_eq_true rfl) kw_294 dX1_deathsBy_36 (as := [.int v5]) (st := [.int x6, .int x4, .int x3, .int x2, .ref p1, .ref p0]) rfl rfl (Nat.le_of_ble_eq_true rfl) hh (fun r7 h6 hq => ?_)
    obtain ⟨v8, rfl, hh⟩ := sr_I_e hq
    show Sat X 39 [.ref p0, .ref p1, .int x2, .int x3, .int x4, .int x5, .int x6] [.int v8, .int x6, .int x4, .int x3, .int x2, .ref p1, .ref p0] h6
    refine ow_callV C (cv_X1_tellsOf _) (Nat.le_of_ble_eq_true rfl) kw_295 dX1_deathsBy_39 (as := [.ref p1, .int x2, .int x3, .int x4, .int x6, .int v8]) (st := []) rfl rfl (Nat.le_of_ble_eq_true rfl) hh (fun r10 h9 hq => ?_)
    obtain ⟨v11, rfl, hh⟩ := sr_I_e hq
    show Sat X 42 [.ref p0, .ref p1, .int x2, .int x3, .int x4, .int x5, .int x6] [.int v11] h9
    refine ow_if_eq (tgt := 54) C dX1_deathsBy_42 (by decide) hh (fun hh => ?_) (fun hh => ?_)
    · skip
      refine ow_iinc (v := x6 + 1) (L' := [.ref p0, .ref p1, .int x2, .int x3, .int x4, .int x5, .int (x6 + 1)]) C dX1_deathsBy_54 rfl rfl (by decide) rfl ?_
      refine ow_goto (tgt := 6) C dX1_deathsBy_57 (by decide) ?_
      exact Sat.mask hh (mk_y (mk_y (mk_y (mk_y (mk_y (mk_y (mk_y mk_0)))))))
    · skip
      refine ow_iload C dX1_deathsBy_45 rfl ?_
      refine ow_iconst (v := 1) C dX1_deathsBy_47 rfl ?_
      refine ow_iload C dX1_deathsBy_48 rfl ?_
      refine ow_ishl C dX1_deathsBy_50 ?_
      refine ow_ior C dX1_deathsBy_51 ?_
      refine ow_istore (L' := [.ref p0, .ref p1, .int x2, .int x3, .int x4, .int (x5 ||| ((1 : Int32) <<< (x6 &&& 31))), .int x6]) C dX1_deathsBy_52 (by decide) rfl ?_
      refine ow_iinc (v := x6 + 1) (L' := [.ref p0, .ref p1, .int x2, .int x3, .int x4, .int (x5 ||| ((1 : Int32) <<< (x6 &&& 31))), .int (x6 + 1)]) C dX1_deathsBy_54 rfl rfl (by decide) rfl ?_
      refine ow_goto (tgt := 6) C dX1_deathsBy_57 (by decide) ?_
      exact Sat.mask hh (mk_y (mk_y (mk_y (mk_y (mk_y (mk_y (mk_y mk_0)))))))
def sm_X1_deathsBy_0 (K6 : Nat → Nat → Int32 → Int32 → Int32 → Int32 → Int32 → aw_H → Prop) (Q : aw_R) (p0 : Nat) (p1 : Nat) (x2 : Int32) (x3 : Int32) (x4 : Int32) (h : aw_H) : Prop :=
  K6 p0 p1 x2 x3 x4 0 0 h
set_option maxRecDepth 100000 in
set_option maxHeartbeats 4000000 in
theorem bl_X1_deathsBy_0 {X : aw_X} {Q : aw_R} (C : aw_C X cX1_deathsBy RX1 7 5) (Z : aw_Z X cX1_deathsBy (some .int) Q) (p0 : Nat) (p1 : Nat) (x2 : Int32) (x3 : Int32) (x4 : Int32) (h : aw_H) (hh : sm_X1_deathsBy_0 (fun (p0 : Nat) (p1 : Nat) (x2 : Int32) (x3 : Int32) (x4 : Int32) (x5 : Int32) (x6 : Int32) (h : aw_H) => Sat X 6 [.ref p0, .ref p1, .int x2, .int x3, .int x4, .int x5, .int x6] [] h) Q p0 p1 x2 x3 x4 h) : Sat X 0 [.ref p0, .ref p1, .int x2, .int x3, .int x4, Value.null, Value.null] [] h := by
  unfold sm_X1_deathsBy_0 at hh
  refine ow_iconst (v := 0) C dX1_deathsBy_0 rfl ?_
  refine ow_istore (L' := [.ref p0, .ref p1, .int x2, .int x3, .int x4, .int 0, Value.null]) C dX1_deathsBy_1 (by decide) rfl ?_
  refine ow_iconst (v := 0) C dX1_deathsBy_3 rfl ?_
  refine ow_istore (L' := [.ref p0, .ref p1, .int x2, .int x3, .int x4, .int 0, .int 0]) C dX1_deathsBy_4 (by decide) rfl ?_
  exact Sat.mask hh (mk_y (mk_y (mk_y (mk_y (mk_y (mk_y (mk_y mk_0)))))))
def tr_X1_deathsBy : aw_T := fun as h Q => ∃ (p0 : Nat) (p1 : Nat) (x2 : Int32) (x3 : Int32) (x4 : Int32), as = [.ref p0, .ref p1, .int x2, .int x3, .int x4] ∧ (∀ (K6 : Nat → Nat → Int32 → Int32 → Int32 → Int32 → Int32 → aw_H → Prop), (∀ (p0 : Nat) (p1 : Nat) (x2 : Int32) (x3 : Int32) (x4 : Int32) (x5 : Int32) (x6 : Int32) (h : aw_H), sm_X1_deathsBy_6 K6 Q p0 p1 x2 x3 x4 x5 x6 h → K6 p0 p1 x2 x3 x4 x5 x6 h) → sm_X1_deathsBy_0 K6 Q p0 p1 x2 x3 x4 h)
theorem tq_X1_deathsBy {p0 : Nat} {p1 : Nat} {x2 : Int32} {x3 : Int32} {x4 : Int32} {h : aw_H} {Q : aw_R} : tr_X1_deathsBy [.ref p0, .ref p1, .int x2, .int x3, .int x4] h Q ↔ (∀ (K6 : Nat → Nat → Int32 → Int32 → Int32 → Int32 → Int32 → aw_H → Prop), (∀ (p0 : Nat) (p1 : Nat) (x2 : Int32) (x3 : Int32) (x4 : Int32) (x5 : Int32) (x6 : Int32) (h : aw_H), sm_X1_deathsBy_6 K6 Q p0 p1 x2 x3 x4 x5 x6 h → K6 p0 p1 x2 x3 x4 x5 x6 h) → sm_X1_deathsBy_0 K6 Q p0 p1 x2 x3 x4 h) := by
  constructor
  · rintro ⟨_, _, _, _, _, as0, hh⟩
    cases as0
    exact hh
  · intro hh
    exact ⟨_, _, _, _, _, rfl, hh⟩
theorem ct_X1_deathsBy (E : aw_F) : CT E yX1_deathsBy cX1_deathsBy 7 (some .int) 5 tr_X1_deathsBy := by
  refine ct_of (by decide) ?_
  intro X Q as h hE C Z hG
  subst hE
  obtain ⟨p0, p1, x2, x3, x4, rfl, hh⟩ := hG
  refine ⟨[.ref p0, .ref p1, .int x2, .int x3, .int x4, Value.null, Value.null], rfl, Nat.le_of_ble_eq_true rfl, ?_⟩
  exact bl_X1_deathsBy_0 C Z p0 p1 x2 x3 x4 h (hh (fun (p0 : Nat) (p1 : Nat) (x2 : Int32) (x3 : Int32) (x4 : Int32) (x5 : Int32) (x6 : Int32) (h : aw_H) => Sat X 6 [.ref p0, .ref p1, .int x2, .int x3, .int x4, .int x5, .int x6] [] h) (fun p0 p1 x2 x3 x4 x5 x6 h hh => bl_X1_deathsBy_6 C Z p0 p1 x2 x3 x4 x5 x6 h hh))
theorem cv_X1_deathsBy (E : aw_F) : CV E yX1_deathsBy cX1_deathsBy 7 (some .int) 5 4 1 tr_X1_deathsBy := ⟨ct_X1_deathsBy E, by decide, kw_297, kw_298, kw_203, kw_296, by decide +kernel, _, _, rfl⟩
theorem dX1_kindsBy_0 : decode cX1_kindsBy 0 = .ok (.aload_n 0, 1) := by decide +kernel
theorem dX1_kindsBy_1 : decode cX1_kindsBy 1 = .ok (.getfield 12, 3) := by decide +kernel
theorem dX1_kindsBy_4 : decode cX1_kindsBy 4 = .ok (.getfield 75, 3) := by decide +kernel
theorem dX1_kindsBy_7 : decode cX1_kindsBy 7 = .ok (.iload 5, 2) := by decide +kernel
theorem dX1_kindsBy_9 : decode cX1_kindsBy 9 = .ok (.iaload, 1) := by decide +kernel
theorem dX1_kindsBy_10 : decode cX1_kindsBy 10 = .ok (.istore 6, 2) := by decide +kernel
theorem dX1_kindsBy_12 : decode cX1_kindsBy 12 = .ok (.iload 6, 2) := by decide +kernel
theorem dX1_kindsBy_14 : decode cX1_kindsBy 14 = .ok (.iconst 0, 1) := by decide +kernel
theorem dX1_kindsBy_15 : decode cX1_kindsBy 15 = .ok (.invokestatic 127, 3) := by decide +kernel
theorem dX1_kindsBy_18 : decode cX1_kindsBy 18 = .ok (.istore 7, 2) := by decide +kernel
theorem dX1_kindsBy_20 : decode cX1_kindsBy 20 = .ok (.iload 6, 2) := by decide +kernel
theorem dX1_kindsBy_22 : decode cX1_kindsBy 22 = .ok (.iconst 1, 1) := by decide +kernel
theorem dX1_kindsBy_23 : decode cX1_kindsBy 23 = .ok (.invokestatic 127, 3) := by decide +kernel
theorem dX1_kindsBy_26 : decode cX1_kindsBy 26 = .ok (.istore 8, 2) := by decide +kernel
theorem dX1_kindsBy_28 : decode cX1_kindsBy 28 = .ok (.iload 6, 2) := by decide +kernel
theorem dX1_kindsBy_30 : decode cX1_kindsBy 30 = .ok (.iconst 2, 1) := by decide +kernel
theorem dX1_kindsBy_31 : decode cX1_kindsBy 31 = .ok (.invokestatic 127, 3) := by decide +kernel
theorem dX1_kindsBy_34 : decode cX1_kindsBy 34 = .ok (.istore 9, 2) := by decide +kernel
theorem dX1_kindsBy_36 : decode cX1_kindsBy 36 = .ok (.iconst 0, 1) := by decide +kernel
theorem dX1_kindsBy_37 : decode cX1_kindsBy 37 = .ok (.istore 10, 2) := by decide +kernel
theorem dX1_kindsBy_39 : decode cX1_kindsBy 39 = .ok (.iconst 0, 1) := by decide +kernel
theorem dX1_kindsBy_40 : decode cX1_kindsBy 40 = .ok (.istore 11, 2) := by decide +kernel
theorem dX1_kindsBy_42 : decode cX1_kindsBy 42 = .ok (.iload 11, 2) := by decide +kernel
theorem dX1_kindsBy_44 : decode cX1_kindsBy 44 = .ok (.iconst 5, 1) := by decide +kernel
theorem dX1_kindsBy_45 : decode cX1_kindsBy 45 = .ok (.if_icmp .ge 53, 3) := by decide +kernel
theorem dX1_kindsBy_48 : decode cX1_kindsBy 48 = .ok (.iload 11, 2) := by decide +kernel
theorem dX1_kindsBy_50 : decode cX1_kindsBy 50 = .ok (.iload 7, 2) := by decide +kernel
theorem dX1_kindsBy_52 : decode cX1_kindsBy 52 = .ok (.iload 8, 2) := by decide +kernel
theorem dX1_kindsBy_54 : decode cX1_kindsBy 54 = .ok (.iload 9, 2) := by decide +kernel
theorem dX1_kindsBy_56 : decode cX1_kindsBy 56 = .ok (.invokestatic 130, 3) := by decide +kernel
theorem dX1_kindsBy_59 : decode cX1_kindsBy 59 = .ok (.ifCond .eq 33, 3) := by decide +kernel
theorem dX1_kindsBy_62 : decode cX1_kindsBy 62 = .ok (.aload_n 0, 1) := by decide +kernel
theorem dX1_kindsBy_63 : decode cX1_kindsBy 63 = .ok (.aload_n 1, 1) := by decide +kernel
theorem dX1_kindsBy_64 : decode cX1_kindsBy 64 = .ok (.iload_n 2, 1) := by decide +kernel
theorem dX1_kindsBy_65 : decode cX1_kindsBy 65 = .ok (.iload_n 3, 1) := by decide +kernel
theorem dX1_kindsBy_66 : decode cX1_kindsBy 66 = .ok (.iload 4, 2) := by decide +kernel
theorem dX1_kindsBy_68 : decode cX1_kindsBy 68 = .ok (.iload 5, 2) := by decide +kernel
theorem dX1_kindsBy_70 : decode cX1_kindsBy 70 = .ok (.iload 6, 2) := by decide +kernel
theorem dX1_kindsBy_72 : decode cX1_kindsBy 72 = .ok (.iload 11, 2) := by decide +kernel
theorem dX1_kindsBy_74 : decode cX1_kindsBy 74 = .ok (.invokestatic 134, 3) := by decide +kernel
theorem dX1_kindsBy_77 : decode cX1_kindsBy 77 = .ok (.invokevirtual 123, 3) := by decide +kernel
theorem dX1_kindsBy_80 : decode cX1_kindsBy 80 = .ok (.ifCond .eq 12, 3) := by decide +kernel
theorem dX1_kindsBy_83 : decode cX1_kindsBy 83 = .ok (.iload 10, 2) := by decide +kernel
theorem dX1_kindsBy_85 : decode cX1_kindsBy 85 = .ok (.iconst 1, 1) := by decide +kernel
theorem dX1_kindsBy_86 : decode cX1_kindsBy 86 = .ok (.iload 11, 2) := by decide +kernel
theorem dX1_kindsBy_88 : decode cX1_kindsBy 88 = .ok (.ishl, 1) := by decide +kernel
theorem dX1_kindsBy_89 : decode cX1_kindsBy 89 = .ok (.ior, 1) := by decide +kernel
theorem dX1_kindsBy_90 : decode cX1_kindsBy 90 = .ok (.istore 10, 2) := by decide +kernel
theorem dX1_kindsBy_92 : decode cX1_kindsBy 92 = .ok (.iinc 11 1, 3) := by decide +kernel
theorem dX1_kindsBy_95 : decode cX1_kindsBy 95 = .ok (.goto (-53), 3) := by decide +kernel
theorem dX1_kindsBy_98 : decode cX1_kindsBy 98 = .ok (.iload 10, 2) := by decide +kernel
theorem dX1_kindsBy_100 : decode cX1_kindsBy 100 = .ok (.ireturn, 1) := by decide +kernel
def sm_X1_kindsBy_42 (K42 : Nat → Nat → Int32 → Int32 → Int32 → Int32 → Int32 → Int32 → Int32 → Int32 → Int32 → Int32 → aw_H → Prop) (Q : aw_R) (p0 : Nat) (p1 : Nat) (x2 : Int32) (x3 : Int32) (x4 : Int32) (x5 : Int32) (x6 : Int32) (x7 : Int32) (x8 : Int32) (x9 : Int32) (x10 : Int32) (x11 : Int32) (h : aw_H) : Prop :=
  if 5 ≤ x11 then (Q (some (.int x10)) h) else (tr_X2_areUnlike [.int x11, .int x7, .int x8, .int x9] h fun r2 h1 => sr_I r2 fun v3 => if v3 = 0 then (K42 p0 p1 x2 x3 x4 x5 x6 x7 x8 x9 x10 (x11 + 1) h1) else (tr_X2_asKind [.int x6, .int x11] h1 fun r5 h4 => sr_I r5 fun v6 => sv_O h4 p0 1 (tr_X1_tellsOf [.ref p0, .ref p1, .int x2, .int x3, .int x4, .int x5, .int v6] h4 fun r8 h7 => sr_I r8 fun v9 => if v9 = 0 then (K42 p0 p1 x2 x3 x4 x5 x6 x7 x8 x9 x10 (x11 + 1) h7) else (K42 p0 p1 x2 x3 x4 x5 x6 x7 x8 x9 (x10 ||| ((1 : Int32) <<< (x11 &&& 31))) (x11 + 1) h7))))
set_option maxRecDepth 100000 in
set_option maxHeartbeats 4000000 in
theorem bl_X1_kindsBy_42 {X : aw_X} {Q : aw_R} (C : aw_C X cX1_kindsBy RX1 12 5) (Z : aw_Z X cX1_kindsBy (some .int) Q) (p0 : Nat) (p1 : Nat) (x2 : Int32) (x3 : Int32) (x4 : Int32) (x5 : Int32) (x6 : Int32) (x7 : Int32) (x8 : Int32) (x9 : Int32) (x10 : Int32) (x11 : Int32) (h : aw_H) (hh : sm_X1_kindsBy_42 (fun (p0 : Nat) (p1 : Nat) (x2 : Int32) (x3 : Int32) (x4 : Int32) (x5 : Int32) (x6 : Int32) (x7 : Int32) (x8 : Int32) (x9 : Int32) (x10 : Int32) (x11 : Int32) (h : aw_H) => Sat X 42 [.ref p0, .ref p1, .int x2, .int x3, .int x4, .int x5, .int x6, .int x7, .int x8, .int x9, .int x10, .int x11] [] h) Q p0 p1 x2 x3 x4 x5 x6 x7 x8 x9 x10 x11 h) : Sat X 42 [.ref p0, .ref p1, .int x2, .int x3, .int x4, .int x5, .int x6, .int x7, .int x8, .int x9, .int x10, .int x11] [] h := by
  unfold sm_X1_kindsBy_42 at hh
  refine ow_iload C dX1_kindsBy_42 rfl ?_
  refine ow_iconst (v := 5) C dX1_kindsBy_44 rfl ?_
  refine ow_icmp_ge (tgt := 98) C dX1_kindsBy_45 (by decide) hh (fun hh => ?_) (fun hh => ?_)
  · skip
    refine ow_iload C dX1_kindsBy_98 rfl ?_
    exact ow_iret Z dX1_kindsBy_100 trivial hh
  · skip
    refine ow_iload C dX1_kindsBy_48 rfl ?_
    refine ow_iload C dX1_kindsBy_50 rfl ?_
    refine ow_iload C dX1_kindsBy_52 rfl ?_
    refine ow_iload C dX1_kindsBy_54 rfl ?_
    refine ow_callS C (cs_X2_areUnlike _) (Nat.le_of_ble_eq_true rfl) kw_299 dX1_kindsBy_56 (as := [.int x11, .int x7, .int x8, .int x9]) (st := []) rfl rfl (Nat.le_of_ble_eq_true rfl) hh (fun r2 h1 hq => ?_)
    obtain ⟨v3, rfl, hh⟩ := sr_I_e hq
    show Sat X 59 [.ref p0, .ref p1, .int x2, .int x3, .int x4, .int x5, .int x6, .int x7, .int x8, .int x9, .int x10, .int x11] [.int v3] h1
    refine ow_if_eq (tgt := 92) C dX1_kindsBy_59 (by decide) hh (fun hh => ?_) (fun hh => ?_)
    · skip
      refine ow_iinc (v := x11 + 1) (L' := [.ref p0, .ref p1, .int x2, .int x3, .int x4, .int x5, .int x6, .int x7, .int x8, .int x9, .int x10, .int (x11 + 1)]) C dX1_kindsBy_92 rfl rfl (by decide) rfl ?_
      refine ow_goto (tgt := 42) C dX1_kindsBy_95 (by decide) ?_
      exact Sat.mask hh (mk_y (mk_y (mk_y (mk_y (mk_y (mk_y (mk_y (mk_y (mk_y (mk_y (mk_y (mk_y mk_0))))))))))))
    · skip
      refine ow_aload_n C dX1_kindsBy_62 rfl rfl ?_
      refine ow_aload_n C dX1_kindsBy_63 rfl rfl ?_
      refine ow_iload_n C dX1_kindsBy_64 rfl rfl ?_
      refine ow_iload_n C dX1_kindsBy_65 rfl rfl ?_
      refine ow_iload C dX1_kindsBy_66 rfl ?_
      refine ow_iload C dX1_kindsBy_68 rfl ?_
      refine ow_iload C dX1_kindsBy_70 rfl ?_
      refine ow_iload C dX1_kindsBy_72 rfl ?_
      refine ow_callS C (cs_X2_asKind _) (Nat.le_of_ble_eq_true rfl) kw_300 dX1_kindsBy_74 (as := [.int x6, .int x11]) (st := [.int x5, .int x4, .int x3, .int x2, .ref p1, .ref p0]) rfl rfl (Nat.le_of_ble_eq_true rfl) hh (fun r5 h4 hq => ?_)
      obtain ⟨v6, rfl, hh⟩ := sr_I_e hq
      show Sat X 77 [.ref p0, .ref p1, .int x2, .int x3, .int x4, .int x5, .int x6, .int x7, .int x8, .int x9, .int x10, .int x11] [.int v6, .int x5, .int x4, .int x3, .int x2, .ref p1, .ref p0] h4
      refine ow_callV C (cv_X1_tellsOf _) (Nat.le_of_ble_eq_true rfl) kw_295 dX1_kindsBy_77 (as := [.ref p1, .int x2, .int x3, .int x4, .int x5, .int v6]) (st := []) rfl rfl (Nat.le_of_ble_eq_true rfl) hh (fun r8 h7 hq => ?_)
      obtain ⟨v9, rfl, hh⟩ := sr_I_e hq
      show Sat X 80 [.ref p0, .ref p1, .int x2, .int x3, .int x4, .int x5, .int x6, .int x7, .int x8, .int x9, .int x10, .int x11] [.int v9] h7
      refine ow_if_eq (tgt := 92) C dX1_kindsBy_80 (by decide) hh (fun hh => ?_) (fun hh => ?_)
      · skip
        refine ow_iinc (v := x11 + 1) (L' := [.ref p0, .ref p1, .int x2, .int x3, .int x4, .int x5, .int x6, .int x7, .int x8, .int x9, .int x10, .int (x11 + 1)]) C dX1_kindsBy_92 rfl rfl (by decide) rfl ?_
        refine ow_goto (tgt := 42) C dX1_kindsBy_95 (by decide) ?_
        exact Sat.mask hh (mk_y (mk_y (mk_y (mk_y (mk_y (mk_y (mk_y (mk_y (mk_y (mk_y (mk_y (mk_y mk_0))))))))))))
      · skip
        refine ow_iload C dX1_kindsBy_83 rfl ?_
        refine ow_iconst (v := 1) C dX1_kindsBy_85 rfl ?_
        refine ow_iload C dX1_kindsBy_86 rfl ?_
        refine ow_ishl C dX1_kindsBy_88 ?_
        refine ow_ior C dX1_kindsBy_89 ?_
        refine ow_istore (L' := [.ref p0, .ref p1, .int x2, .int x3, .int x4, .int x5, .int x6, .int x7, .int x8, .int x9, .int (x10 ||| ((1 : Int32) <<< (x11 &&& 31))), .int x11]) C dX1_kindsBy_90 (by decide) rfl ?_
        refine ow_iinc (v := x11 + 1) (L' := [.ref p0, .ref p1, .int x2, .int x3, .int x4, .int x5, .int x6, .int x7, .int x8, .int x9, .int (x10 ||| ((1 : Int32) <<< (x11 &&& 31))), .int (x11 + 1)]) C dX1_kindsBy_92 rfl rfl (by decide) rfl ?_
        refine ow_goto (tgt := 42) C dX1_kindsBy_95 (by decide) ?_
        exact Sat.mask hh (mk_y (mk_y (mk_y (mk_y (mk_y (mk_y (mk_y (mk_y (mk_y (mk_y (mk_y (mk_y mk_0))))))))))))
def sm_X1_kindsBy_0 (K42 : Nat → Nat → Int32 → Int32 → Int32 → Int32 → Int32 → Int32 → Int32 → Int32 → Int32 → Int32 → aw_H → Prop) (Q : aw_R) (p0 : Nat) (p1 : Nat) (x2 : Int32) (x3 : Int32) (x4 : Int32) (x5 : Int32) (h : aw_H) : Prop :=
  sg_R h p0 1 0 fun q1 => sg_R h q1 0 2 fun q2 => sa_I h q2 x5 fun v3 => tr_X2_wireAt [.int v3, .int 0] h fun r5 h4 => sr_I r5 fun v6 => tr_X2_wireAt [.int v3, .int 1] h4 fun r8 h7 => sr_I r8 fun v9 => tr_X2_wireAt [.int v3, .int 2] h7 fun r11 h10 => sr_I r11 fun v12 => K42 p0 p1 x2 x3 x4 x5 v3 v6 v9 v12 0 0 h10
set_option maxRecDepth 100000 in
set_option maxHeartbeats 4000000 in
theorem bl_X1_kindsBy_0 {X : aw_X} {Q : aw_R} (C : aw_C X cX1_kindsBy RX1 12 5) (Z : aw_Z X cX1_kindsBy (some .int) Q) (p0 : Nat) (p1 : Nat) (x2 : Int32) (x3 : Int32) (x4 : Int32) (x5 : Int32) (h : aw_H) (hh : sm_X1_kindsBy_0 (fun (p0 : Nat) (p1 : Nat) (x2 : Int32) (x3 : Int32) (x4 : Int32) (x5 : Int32) (x6 : Int32) (x7 : Int32) (x8 : Int32) (x9 : Int32) (x10 : Int32) (x11 : Int32) (h : aw_H) => Sat X 42 [.ref p0, .ref p1, .int x2, .int x3, .int x4, .int x5, .int x6, .int x7, .int x8, .int x9, .int x10, .int x11] [] h) Q p0 p1 x2 x3 x4 x5 h) : Sat X 0 [.ref p0, .ref p1, .int x2, .int x3, .int x4, .int x5, Value.null, Value.null, Value.null, Value.null, Value.null, Value.null] [] h := by
  unfold sm_X1_kindsBy_0 at hh
  refine ow_aload_n C dX1_kindsBy_0 rfl rfl ?_
  refine ow_getR (ci := 1) (k := 0) (T := TX1) C rfl igX1 (by decide) kw_199 dX1_kindsBy_1 hh (fun q1 hh => ?_)
  refine ow_getR (ci := 0) (k := 2) (T := TX0) C rfl igX0 (by decide) kw_231 dX1_kindsBy_4 hh (fun q2 hh => ?_)
  refine ow_iload C dX1_kindsBy_7 rfl ?_
  refine ow_iaload C dX1_kindsBy_9 hh (fun v3 hh => ?_)
  refine ow_istore (L' := [.ref p0, .ref p1, .int x2, .int x3, .int x4, .int x5, .int v3, Value.null, Value.null, Value.null, Value.null, Value.null]) C dX1_kindsBy_10 (by decide) rfl ?_
  refine ow_iload C dX1_kindsBy_12 rfl ?_
  refine ow_iconst (v := 0) C dX1_kindsBy_14 rfl ?_
  refine ow_callS C (cs_X2_wireAt _) (Nat.le_of_ble_eq_true rfl) kw_301 dX1_kindsBy_15 (as := [.int v3, .int 0]) (st := []) rfl rfl (Nat.le_of_ble_eq_true rfl) hh (fun r5 h4 hq => ?_)
  obtain ⟨v6, rfl, hh⟩ := sr_I_e hq
  show Sat X 18 [.ref p0, .ref p1, .int x2, .int x3, .int x4, .int x5, .int v3, Value.null, Value.null, Value.null, Value.null, Value.null] [.int v6] h4
  refine ow_istore (L' := [.ref p0, .ref p1, .int x2, .int x3, .int x4, .int x5, .int v3, .int v6, Value.null, Value.null, Value.null, Value.null]) C dX1_kindsBy_18 (by decide) rfl ?_
  refine ow_iload C dX1_kindsBy_20 rfl ?_
  refine ow_iconst (v := 1) C dX1_kindsBy_22 rfl ?_
  refine ow_callS C (cs_X2_wireAt _) (Nat.le_of_ble_eq_true rfl) kw_301 dX1_kindsBy_23 (as := [.int v3, .int 1]) (st := []) rfl rfl (Nat.le_of_ble_eq_true rfl) hh (fun r8 h7 hq => ?_)
  obtain ⟨v9, rfl, hh⟩ := sr_I_e hq
  show Sat X 26 [.ref p0, .ref p1, .int x2, .int x3, .int x4, .int x5, .int v3, .int v6, Value.null, Value.null, Value.null, Value.null] [.int v9] h7
  refine ow_istore (L' := [.ref p0, .ref p1, .int x2, .int x3, .int x4, .int x5, .int v3, .int v6, .int v9, Value.null, Value.null, Value.null]) C dX1_kindsBy_26 (by decide) rfl ?_
  refine ow_iload C dX1_kindsBy_28 rfl ?_
  refine ow_iconst (v := 2) C dX1_kindsBy_30 rfl ?_
  refine ow_callS C (cs_X2_wireAt _) (Nat.le_of_ble_eq_true rfl) kw_301 dX1_kindsBy_31 (as := [.int v3, .int 2]) (st := []) rfl rfl (Nat.le_of_ble_eq_true rfl) hh (fun r11 h10 hq => ?_)
  obtain ⟨v12, rfl, hh⟩ := sr_I_e hq
  show Sat X 34 [.ref p0, .ref p1, .int x2, .int x3, .int x4, .int x5, .int v3, .int v6, .int v9, Value.null, Value.null, Value.null] [.int v12] h10
  refine ow_istore (L' := [.ref p0, .ref p1, .int x2, .int x3, .int x4, .int x5, .int v3, .int v6, .int v9, .int v12, Value.null, Value.null]) C dX1_kindsBy_34 (by decide) rfl ?_
  refine ow_iconst (v := 0) C dX1_kindsBy_36 rfl ?_
  refine ow_istore (L' := [.ref p0, .ref p1, .int x2, .int x3, .int x4, .int x5, .int v3, .int v6, .int v9, .int v12, .int 0, Value.null]) C dX1_kindsBy_37 (by decide) rfl ?_
  refine ow_iconst (v := 0) C dX1_kindsBy_39 rfl ?_
  refine ow_istore (L' := [.ref p0, .ref p1, .int x2, .int x3, .int x4, .int x5, .int v3, .int v6, .int v9, .int v12, .int 0, .int 0]) C dX1_kindsBy_40 (by decide) rfl ?_
  exact Sat.mask hh (mk_y (mk_y (mk_y (mk_y (mk_y (mk_y (mk_y (mk_y (mk_y (mk_y (mk_y (mk_y mk_0))))))))))))
def tr_X1_kindsBy : aw_T := fun as h Q => ∃ (p0 : Nat) (p1 : Nat) (x2 : Int32) (x3 : Int32) (x4 : Int32) (x5 : Int32), as = [.ref p0, .ref p1, .int x2, .int x3, .int x4, .int x5] ∧ (∀ (K42 : Nat → Nat → Int32 → Int32 → Int32 → Int32 → Int32 → Int32 → Int32 → Int32 → Int32 → Int32 → aw_H → Prop), (∀ (p0 : Nat) (p1 : Nat) (x2 : Int32) (x3 : Int32) (x4 : Int32) (x5 : Int32) (x6 : Int32) (x7 : Int32) (x8 : Int32) (x9 : Int32) (x10 : Int32) (x11 : Int32) (h : aw_H), sm_X1_kindsBy_42 K42 Q p0 p1 x2 x3 x4 x5 x6 x7 x8 x9 x10 x11 h → K42 p0 p1 x2 x3 x4 x5 x6 x7 x8 x9 x10 x11 h) → sm_X1_kindsBy_0 K42 Q p0 p1 x2 x3 x4 x5 h)
theorem tq_X1_kindsBy {p0 : Nat} {p1 : Nat} {x2 : Int32} {x3 : Int32} {x4 : Int32} {x5 : Int32} {h : aw_H} {Q : aw_R} : tr_X1_kindsBy [.ref p0, .ref p1, .int x2, .int x3, .int x4, .int x5] h Q ↔ (∀ (K42 : Nat → Nat → Int32 → Int32 → Int32 → Int32 → Int32 → Int32 → Int32 → Int32 → Int32 → Int32 → aw_H → Prop), (∀ (p0 : Nat) (p1 : Nat) (x2 : Int32) (x3 : Int32) (x4 : Int32) (x5 : Int32) (x6 : Int32) (x7 : Int32) (x8 : Int32) (x9 : Int32) (x10 : Int32) (x11 : Int32) (h : aw_H), sm_X1_kindsBy_42 K42 Q p0 p1 x2 x3 x4 x5 x6 x7 x8 x9 x10 x11 h → K42 p0 p1 x2 x3 x4 x5 x6 x7 x8 x9 x10 x11 h) → sm_X1_kindsBy_0 K42 Q p0 p1 x2 x3 x4 x5 h) := by
  constructor
  · rintro ⟨_, _, _, _, _, _, as0, hh⟩
    cases as0
    exact hh
  · intro hh
    exact ⟨_, _, _, _, _, _, rfl, hh⟩
theorem ct_X1_kindsBy (E : aw_F) : CT E yX1_kindsBy cX1_kindsBy 12 (some .int) 5 tr_X1_kindsBy := by
  refine ct_of (by decide) ?_
  intro X Q as h hE C Z hG
  subst hE
  obtain ⟨p0, p1, x2, x3, x4, x5, rfl, hh⟩ := hG
  refine ⟨[.ref p0, .ref p1, .int x2, .int x3, .int x4, .int x5, Value.null, Value.null, Value.null, Value.null, Value.null, Value.null], rfl, Nat.le_of_ble_eq_true rfl, ?_⟩
  exact bl_X1_kindsBy_0 C Z p0 p1 x2 x3 x4 x5 h (hh (fun (p0 : Nat) (p1 : Nat) (x2 : Int32) (x3 : Int32) (x4 : Int32) (x5 : Int32) (x6 : Int32) (x7 : Int32) (x8 : Int32) (x9 : Int32) (x10 : Int32) (x11 : Int32) (h : aw_H) => Sat X 42 [.ref p0, .ref p1, .int x2, .int x3, .int x4, .int x5, .int x6, .int x7, .int x8, .int x9, .int x10, .int x11] [] h) (fun p0 p1 x2 x3 x4 x5 x6 x7 x8 x9 x10 x11 h hh => bl_X1_kindsBy_42 C Z p0 p1 x2 x3 x4 x5 x6 x7 x8 x9 x10 x11 h hh))
theorem cv_X1_kindsBy (E : aw_F) : CV E yX1_kindsBy cX1_kindsBy 12 (some .int) 5 5 1 tr_X1_kindsBy := ⟨ct_X1_kindsBy E, by decide, kw_303, kw_304, kw_203, kw_302, by decide +kernel, _, _, rfl⟩
theorem dX1_runsBy_0 : decode cX1_runsBy 0 = .ok (.aload_n 0, 1) := by decide +kernel
theorem dX1_runsBy_1 : decode cX1_runsBy 1 = .ok (.invokevirtual 39, 3) := by decide +kernel
theorem dX1_runsBy_4 : decode cX1_runsBy 4 = .ok (.iconst 0, 1) := by decide +kernel
theorem dX1_runsBy_5 : decode cX1_runsBy 5 = .ok (.istore 5, 2) := by decide +kernel
theorem dX1_runsBy_7 : decode cX1_runsBy 7 = .ok (.iload 5, 2) := by decide +kernel
theorem dX1_runsBy_9 : decode cX1_runsBy 9 = .ok (.iload 4, 2) := by decide +kernel
theorem dX1_runsBy_11 : decode cX1_runsBy 11 = .ok (.if_icmp .ge 20, 3) := by decide +kernel
theorem dX1_runsBy_14 : decode cX1_runsBy 14 = .ok (.aload_n 0, 1) := by decide +kernel
theorem dX1_runsBy_15 : decode cX1_runsBy 15 = .ok (.getfield 22, 3) := by decide +kernel
theorem dX1_runsBy_18 : decode cX1_runsBy 18 = .ok (.iload 5, 2) := by decide +kernel
theorem dX1_runsBy_20 : decode cX1_runsBy 20 = .ok (.iload_n 3, 1) := by decide +kernel
theorem dX1_runsBy_21 : decode cX1_runsBy 21 = .ok (.iload 5, 2) := by decide +kernel
theorem dX1_runsBy_23 : decode cX1_runsBy 23 = .ok (.iadd, 1) := by decide +kernel
theorem dX1_runsBy_24 : decode cX1_runsBy 24 = .ok (.iastore, 1) := by decide +kernel
theorem dX1_runsBy_25 : decode cX1_runsBy 25 = .ok (.iinc 5 1, 3) := by decide +kernel
theorem dX1_runsBy_28 : decode cX1_runsBy 28 = .ok (.goto (-21), 3) := by decide +kernel
theorem dX1_runsBy_31 : decode cX1_runsBy 31 = .ok (.iconst 1, 1) := by decide +kernel
theorem dX1_runsBy_32 : decode cX1_runsBy 32 = .ok (.istore 5, 2) := by decide +kernel
theorem dX1_runsBy_34 : decode cX1_runsBy 34 = .ok (.iload 5, 2) := by decide +kernel
theorem dX1_runsBy_36 : decode cX1_runsBy 36 = .ok (.sipush 200, 3) := by decide +kernel
theorem dX1_runsBy_39 : decode cX1_runsBy 39 = .ok (.if_icmp .gt 88, 3) := by decide +kernel
theorem dX1_runsBy_42 : decode cX1_runsBy 42 = .ok (.iconst 1, 1) := by decide +kernel
theorem dX1_runsBy_43 : decode cX1_runsBy 43 = .ok (.istore 6, 2) := by decide +kernel
theorem dX1_runsBy_45 : decode cX1_runsBy 45 = .ok (.iconst 0, 1) := by decide +kernel
theorem dX1_runsBy_46 : decode cX1_runsBy 46 = .ok (.istore 7, 2) := by decide +kernel
theorem dX1_runsBy_48 : decode cX1_runsBy 48 = .ok (.iload 7, 2) := by decide +kernel
theorem dX1_runsBy_50 : decode cX1_runsBy 50 = .ok (.iload 4, 2) := by decide +kernel
theorem dX1_runsBy_52 : decode cX1_runsBy 52 = .ok (.if_icmp .ge 61, 3) := by decide +kernel
theorem dX1_runsBy_55 : decode cX1_runsBy 55 = .ok (.aload_n 0, 1) := by decide +kernel
theorem dX1_runsBy_56 : decode cX1_runsBy 56 = .ok (.getfield 22, 3) := by decide +kernel
theorem dX1_runsBy_59 : decode cX1_runsBy 59 = .ok (.iload 7, 2) := by decide +kernel
theorem dX1_runsBy_61 : decode cX1_runsBy 61 = .ok (.aload_n 0, 1) := by decide +kernel
theorem dX1_runsBy_62 : decode cX1_runsBy 62 = .ok (.getfield 18, 3) := by decide +kernel
theorem dX1_runsBy_65 : decode cX1_runsBy 65 = .ok (.aload_n 0, 1) := by decide +kernel
theorem dX1_runsBy_66 : decode cX1_runsBy 66 = .ok (.getfield 22, 3) := by decide +kernel
theorem dX1_runsBy_69 : decode cX1_runsBy 69 = .ok (.iload 7, 2) := by decide +kernel
theorem dX1_runsBy_71 : decode cX1_runsBy 71 = .ok (.iaload, 1) := by decide +kernel
theorem dX1_runsBy_72 : decode cX1_runsBy 72 = .ok (.iaload, 1) := by decide +kernel
theorem dX1_runsBy_73 : decode cX1_runsBy 73 = .ok (.iastore, 1) := by decide +kernel
theorem dX1_runsBy_74 : decode cX1_runsBy 74 = .ok (.iload 6, 2) := by decide +kernel
theorem dX1_runsBy_76 : decode cX1_runsBy 76 = .ok (.ifCond .eq 28, 3) := by decide +kernel
theorem dX1_runsBy_79 : decode cX1_runsBy 79 = .ok (.aload_n 1, 1) := by decide +kernel
theorem dX1_runsBy_80 : decode cX1_runsBy 80 = .ok (.getfield 137, 3) := by decide +kernel
theorem dX1_runsBy_83 : decode cX1_runsBy 83 = .ok (.iload_n 2, 1) := by decide +kernel
theorem dX1_runsBy_84 : decode cX1_runsBy 84 = .ok (.iload 7, 2) := by decide +kernel
theorem dX1_runsBy_86 : decode cX1_runsBy 86 = .ok (.iadd, 1) := by decide +kernel
theorem dX1_runsBy_87 : decode cX1_runsBy 87 = .ok (.laload, 1) := by decide +kernel
theorem dX1_runsBy_88 : decode cX1_runsBy 88 = .ok (.aload_n 0, 1) := by decide +kernel
theorem dX1_runsBy_89 : decode cX1_runsBy 89 = .ok (.getfield 22, 3) := by decide +kernel
theorem dX1_runsBy_92 : decode cX1_runsBy 92 = .ok (.iload 7, 2) := by decide +kernel
theorem dX1_runsBy_94 : decode cX1_runsBy 94 = .ok (.iaload, 1) := by decide +kernel
theorem dX1_runsBy_95 : decode cX1_runsBy 95 = .ok (.i2l, 1) := by decide +kernel
theorem dX1_runsBy_96 : decode cX1_runsBy 96 = .ok (.lcmp, 1) := by decide +kernel
theorem dX1_runsBy_97 : decode cX1_runsBy 97 = .ok (.ifCond .ne 7, 3) := by decide +kernel
theorem dX1_runsBy_100 : decode cX1_runsBy 100 = .ok (.iconst 1, 1) := by decide +kernel
theorem dX1_runsBy_101 : decode cX1_runsBy 101 = .ok (.goto 4, 3) := by decide +kernel
theorem dX1_runsBy_104 : decode cX1_runsBy 104 = .ok (.iconst 0, 1) := by decide +kernel
theorem dX1_runsBy_105 : decode cX1_runsBy 105 = .ok (.istore 6, 2) := by decide +kernel
theorem dX1_runsBy_107 : decode cX1_runsBy 107 = .ok (.iinc 7 1, 3) := by decide +kernel
theorem dX1_runsBy_110 : decode cX1_runsBy 110 = .ok (.goto (-62), 3) := by decide +kernel
theorem dX1_runsBy_113 : decode cX1_runsBy 113 = .ok (.iload 6, 2) := by decide +kernel
theorem dX1_runsBy_115 : decode cX1_runsBy 115 = .ok (.ifCond .eq 6, 3) := by decide +kernel
theorem dX1_runsBy_118 : decode cX1_runsBy 118 = .ok (.iload 5, 2) := by decide +kernel
theorem dX1_runsBy_120 : decode cX1_runsBy 120 = .ok (.ireturn, 1) := by decide +kernel
theorem dX1_runsBy_121 : decode cX1_runsBy 121 = .ok (.iinc 5 1, 3) := by decide +kernel
theorem dX1_runsBy_124 : decode cX1_runsBy 124 = .ok (.goto (-90), 3) := by decide +kernel
theorem dX1_runsBy_127 : decode cX1_runsBy 127 = .ok (.bipush (-4), 2) := by decide +kernel
theorem dX1_runsBy_129 : decode cX1_runsBy 129 = .ok (.ireturn, 1) := by decide +kernel
def sm_X1_runsBy_48 (K7 : Nat → Nat → Int32 → Int32 → Int32 → Int32 → aw_H → Prop) (K34 : Nat → Nat → Int32 → Int32 → Int32 → aw_H → Prop) (K48 : Nat → Nat → Int32 → Int32 → Int32 → Int32 → Int32 → aw_H → Prop) (Q : aw_R) (p0 : Nat) (p1 : Nat) (x2 : Int32) (x4 : Int32) (x5 : Int32) (x6 : Int32) (x7 : Int32) (h : aw_H) : Prop :=
  if x4 ≤ x7 then (if x6 = 0 then (K34 p0 p1 x2 x4 (x5 + 1) h) else (Q (some (.int x5)) h)) else (sg_R h p0 1 2 fun q1 => sg_R h p0 1 1 fun q2 => sg_R h p0 1 2 fun q3 => sa_I h q3 x7 fun v4 => sa_I h q2 v4 fun v5 => ss_I h q1 x7 v5 fun h6 => if x6 = 0 then (K48 p0 p1 x2 x4 x5 0 (x7 + 1) h6) else (sg_R h6 p1 3 3 fun q7 => sa_L h6 q7 (x2 + x7) fun u8 => sg_R h6 p0 1 2 fun q9 => sa_I h6 q9 x7 fun v10 => if ¬ (lg_cmp u8 (Int32.toInt64 v10)) = 0 then (K48 p0 p1 x2 x4 x5 0 (x7 + 1) h6) else (K48 p0 p1 x2 x4 x5 1 (x7 + 1) h6)))
set_option maxRecDepth 100000 in
set_option maxHeartbeats 4000000 in
theorem bl_X1_runsBy_48 {X : aw_X} {Q : aw_R} (C : aw_C X cX1_runsBy RX1 8 5) (Z : aw_Z X cX1_runsBy (some .int) Q) (p0 : Nat) (p1 : Nat) (x2 : Int32) (x4 : Int32) (x5 : Int32) (x6 : Int32) (x7 : Int32) (h : aw_H) (hh : sm_X1_runsBy_48 (fun (p0 : Nat) (p1 : Nat) (x2 : Int32) (x3 : Int32) (x4 : Int32) (x5 : Int32) (h : aw_H) => Sat X 7 [.ref p0, .ref p1, .int x2, .int x3, .int x4, .int x5, Value.null, Value.null] [] h) (fun (p0 : Nat) (p1 : Nat) (x2 : Int32) (x4 : Int32) (x5 : Int32) (h : aw_H) => Sat X 34 [.ref p0, .ref p1, .int x2, Value.null, .int x4, .int x5, Value.null, Value.null] [] h) (fun (p0 : Nat) (p1 : Nat) (x2 : Int32) (x4 : Int32) (x5 : Int32) (x6 : Int32) (x7 : Int32) (h : aw_H) => Sat X 48 [.ref p0, .ref p1, .int x2, Value.null, .int x4, .int x5, .int x6, .int x7] [] h) Q p0 p1 x2 x4 x5 x6 x7 h) : Sat X 48 [.ref p0, .ref p1, .int x2, Value.null, .int x4, .int x5, .int x6, .int x7] [] h := by
  unfold sm_X1_runsBy_48 at hh
  refine ow_iload C dX1_runsBy_48 rfl ?_
  refine ow_iload C dX1_runsBy_50 rfl ?_
  refine ow_icmp_ge (tgt := 113) C dX1_runsBy_52 (by decide) hh (fun hh => ?_) (fun hh => ?_)
  · skip
    refine ow_iload C dX1_runsBy_113 rfl ?_
    refine ow_if_eq (tgt := 121) C dX1_runsBy_115 (by decide) hh (fun hh => ?_) (fun hh => ?_)
    · skip
      refine ow_iinc (v := x5 + 1) (L' := [.ref p0, .ref p1, .int x2, Value.null, .int x4, .int (x5 + 1), .int x6, .int x7]) C dX1_runsBy_121 rfl rfl (by decide) rfl ?_
      refine ow_goto (tgt := 34) C dX1_runsBy_124 (by decide) ?_
      exact Sat.mask hh (mk_y (mk_y (mk_y (mk_n (mk_y (mk_y (mk_n (mk_n mk_0))))))))
    · skip
      refine ow_iload C dX1_runsBy_118 rfl ?_
      exact ow_iret Z dX1_runsBy_120 trivial hh
  · skip
    refine ow_aload_n C dX1_runsBy_55 rfl rfl ?_
    refine ow_getR (ci := 1) (k := 2) (T := TX1) C rfl igX1 (by decide) kw_241 dX1_runsBy_56 hh (fun q1 hh => ?_)
    refine ow_iload C dX1_runsBy_59 rfl ?_
    refine ow_aload_n C dX1_runsBy_61 rfl rfl ?_
    refine ow_getR (ci := 1) (k := 1) (T := TX1) C rfl igX1 (by decide) kw_198 dX1_runsBy_62 hh (fun q2 hh => ?_)
    refine ow_aload_n C dX1_runsBy_65 rfl rfl ?_
    refine ow_getR (ci := 1) (k := 2) (T := TX1) C rfl igX1 (by decide) kw_241 dX1_runsBy_66 hh (fun q3 hh => ?_)
    refine ow_iload C dX1_runsBy_69 rfl ?_
    refine ow_iaload C dX1_runsBy_71 hh (fun v4 hh => ?_)
    refine ow_iaload C dX1_runsBy_72 hh (fun v5 hh => ?_)
    refine ow_iastore C dX1_runsBy_73 hh (fun h6 hh => ?_)
    refine ow_iload C dX1_runsBy_74 rfl ?_
    refine ow_if_eq (tgt := 104) C dX1_runsBy_76 (by decide) hh (fun hh => ?_) (fun hh => ?_)
    · skip
      refine ow_iconst (v := 0) C dX1_runsBy_104 rfl ?_
      refine ow_istore (L' := [.ref p0, .ref p1, .int x2, Value.null, .int x4, .int x5, .int 0, .int x7]) C dX1_runsBy_105 (by decide) rfl ?_
      refine ow_iinc (v := x7 + 1) (L' := [.ref p0, .ref p1, .int x2, Value.null, .int x4, .int x5, .int 0, .int (x7 + 1)]) C dX1_runsBy_107 rfl rfl (by decide) rfl ?_
      refine ow_goto (tgt := 48) C dX1_runsBy_110 (by decide) ?_
      exact Sat.mask hh (mk_y (mk_y (mk_y (mk_n (mk_y (mk_y (mk_y (mk_y mk_0))))))))
    · skip
      refine ow_aload_n C dX1_runsBy_79 rfl rfl ?_
      refine ow_getR (ci := 3) (k := 3) (T := TX4) C rfl igX4 (by decide) kw_289 dX1_runsBy_80 hh (fun q7 hh => ?_)
      refine ow_iload_n C dX1_runsBy_83 rfl rfl ?_
      refine ow_iload C dX1_runsBy_84 rfl ?_
      refine ow_iadd C dX1_runsBy_86 ?_
      refine ow_laload C dX1_runsBy_87 hh (fun u8 hh => ?_)
      refine ow_aload_n C dX1_runsBy_88 rfl rfl ?_
      refine ow_getR (ci := 1) (k := 2) (T := TX1) C rfl igX1 (by decide) kw_241 dX1_runsBy_89 hh (fun q9 hh => ?_)
      refine ow_iload C dX1_runsBy_92 rfl ?_
      refine ow_iaload C dX1_runsBy_94 hh (fun v10 hh => ?_)
      refine ow_i2l C dX1_runsBy_95 ?_
      refine ow_lcmp C dX1_runsBy_96 ?_
      refine ow_if_ne (tgt := 104) C dX1_runsBy_97 (by decide) hh (fun hh => ?_) (fun hh => ?_)
      · skip
        refine ow_iconst (v := 0) C dX1_runsBy_104 rfl ?_
        refine ow_istore (L' := [.ref p0, .ref p1, .int x2, Value.null, .int x4, .int x5, .int 0, .int x7]) C dX1_runsBy_105 (by decide) rfl ?_
        refine ow_iinc (v := x7 + 1) (L' := [.ref p0, .ref p1, .int x2, Value.null, .int x4, .int x5, .int 0, .int (x7 + 1)]) C dX1_runsBy_107 rfl rfl (by decide) rfl ?_
        refine ow_goto (tgt := 48) C dX1_runsBy_110 (by decide) ?_
        exact Sat.mask hh (mk_y (mk_y (mk_y (mk_n (mk_y (mk_y (mk_y (mk_y mk_0))))))))
      · skip
        refine ow_iconst (v := 1) C dX1_runsBy_100 rfl ?_
        refine ow_goto (tgt := 105) C dX1_runsBy_101 (by decide) ?_
        refine ow_istore (L' := [.ref p0, .ref p1, .int x2, Value.null, .int x4, .int x5, .int 1, .int x7]) C dX1_runsBy_105 (by decide) rfl ?_
        refine ow_iinc (v := x7 + 1) (L' := [.ref p0, .ref p1, .int x2, Value.null, .int x4, .int x5, .int 1, .int (x7 + 1)]) C dX1_runsBy_107 rfl rfl (by decide) rfl ?_
        refine ow_goto (tgt := 48) C dX1_runsBy_110 (by decide) ?_
        exact Sat.mask hh (mk_y (mk_y (mk_y (mk_n (mk_y (mk_y (mk_y (mk_y mk_0))))))))
def sm_X1_runsBy_34 (K7 : Nat → Nat → Int32 → Int32 → Int32 → Int32 → aw_H → Prop) (K34 : Nat → Nat → Int32 → Int32 → Int32 → aw_H → Prop) (K48 : Nat → Nat → Int32 → Int32 → Int32 → Int32 → Int32 → aw_H → Prop) (Q : aw_R) (p0 : Nat) (p1 : Nat) (x2 : Int32) (x4 : Int32) (x5 : Int32) (h : aw_H) : Prop :=
  if 200 < x5 then (Q (some (.int ((-4)))) h) else (K48 p0 p1 x2 x4 x5 1 0 h)
set_option maxRecDepth 100000 in
set_option maxHeartbeats 4000000 in
theorem bl_X1_runsBy_34 {X : aw_X} {Q : aw_R} (C : aw_C X cX1_runsBy RX1 8 5) (Z : aw_Z X cX1_runsBy (some .int) Q) (p0 : Nat) (p1 : Nat) (x2 : Int32) (x4 : Int32) (x5 : Int32) (h : aw_H) (hh : sm_X1_runsBy_34 (fun (p0 : Nat) (p1 : Nat) (x2 : Int32) (x3 : Int32) (x4 : Int32) (x5 : Int32) (h : aw_H) => Sat X 7 [.ref p0, .ref p1, .int x2, .int x3, .int x4, .int x5, Value.null, Value.null] [] h) (fun (p0 : Nat) (p1 : Nat) (x2 : Int32) (x4 : Int32) (x5 : Int32) (h : aw_H) => Sat X 34 [.ref p0, .ref p1, .int x2, Value.null, .int x4, .int x5, Value.null, Value.null] [] h) (fun (p0 : Nat) (p1 : Nat) (x2 : Int32) (x4 : Int32) (x5 : Int32) (x6 : Int32) (x7 : Int32) (h : aw_H) => Sat X 48 [.ref p0, .ref p1, .int x2, Value.null, .int x4, .int x5, .int x6, .int x7] [] h) Q p0 p1 x2 x4 x5 h) : Sat X 34 [.ref p0, .ref p1, .int x2, Value.null, .int x4, .int x5, Value.null, Value.null] [] h := by
  unfold sm_X1_runsBy_34 at hh
  refine ow_iload C dX1_runsBy_34 rfl ?_
  refine ow_sipush (v := 200) C dX1_runsBy_36 rfl ?_
  refine ow_icmp_gt (tgt := 127) C dX1_runsBy_39 (by decide) hh (fun hh => ?_) (fun hh => ?_)
  · skip
    refine ow_bipush (v := (-4)) C dX1_runsBy_127 rfl ?_
    exact ow_iret Z dX1_runsBy_129 trivial hh
  · skip
    refine ow_iconst (v := 1) C dX1_runsBy_42 rfl ?_
    refine ow_istore (L' := [.ref p0, .ref p1, .int x2, Value.null, .int x4, .int x5, .int 1, Value.null]) C dX1_runsBy_43 (by decide) rfl ?_
    refine ow_iconst (v := 0) C dX1_runsBy_45 rfl ?_
    refine ow_istore (L' := [.ref p0, .ref p1, .int x2, Value.null, .int x4, .int x5, .int 1, .int 0]) C dX1_runsBy_46 (by decide) rfl ?_
    exact Sat.mask hh (mk_y (mk_y (mk_y (mk_n (mk_y (mk_y (mk_y (mk_y mk_0))))))))
def sm_X1_runsBy_7 (K7 : Nat → Nat → Int32 → Int32 → Int32 → Int32 → aw_H → Prop) (K34 : Nat → Nat → Int32 → Int32 → Int32 → aw_H → Prop) (K48 : Nat → Nat → Int32 → Int32 → Int32 → Int32 → Int32 → aw_H → Prop) (Q : aw_R) (p0 : Nat) (p1 : Nat) (x2 : Int32) (x3 : Int32) (x4 : Int32) (x5 : Int32) (h : aw_H) : Prop :=
  if x4 ≤ x5 then (K34 p0 p1 x2 x4 1 h) else (sg_R h p0 1 2 fun q1 => ss_I h q1 x5 (x3 + x5) fun h2 => K7 p0 p1 x2 x3 x4 (x5 + 1) h2)
set_option maxRecDepth 100000 in
set_option maxHeartbeats 4000000 in
theorem bl_X1_runsBy_7 {X : aw_X} {Q : aw_R} (C : aw_C X cX1_runsBy RX1 8 5) (Z : aw_Z X cX1_runsBy (some .int) Q) (p0 : Nat) (p1 : Nat) (x2 : Int32) (x3 : Int32) (x4 : Int32) (x5 : Int32) (h : aw_H) (hh : sm_X1_runsBy_7 (fun (p0 : Nat) (p1 : Nat) (x2 : Int32) (x3 : Int32) (x4 : Int32) (x5 : Int32) (h : aw_H) => Sat X 7 [.ref p0, .ref p1, .int x2, .int x3, .int x4, .int x5, Value.null, Value.null] [] h) (fun (p0 : Nat) (p1 : Nat) (x2 : Int32) (x4 : Int32) (x5 : Int32) (h : aw_H) => Sat X 34 [.ref p0, .ref p1, .int x2, Value.null, .int x4, .int x5, Value.null, Value.null] [] h) (fun (p0 : Nat) (p1 : Nat) (x2 : Int32) (x4 : Int32) (x5 : Int32) (x6 : Int32) (x7 : Int32) (h : aw_H) => Sat X 48 [.ref p0, .ref p1, .int x2, Value.null, .int x4, .int x5, .int x6, .int x7] [] h) Q p0 p1 x2 x3 x4 x5 h) : Sat X 7 [.ref p0, .ref p1, .int x2, .int x3, .int x4, .int x5, Value.null, Value.null] [] h := by
  unfold sm_X1_runsBy_7 at hh
  refine ow_iload C dX1_runsBy_7 rfl ?_
  refine ow_iload C dX1_runsBy_9 rfl ?_
  refine ow_icmp_ge (tgt := 31) C dX1_runsBy_11 (by decide) hh (fun hh => ?_) (fun hh => ?_)
  · skip
    refine ow_iconst (v := 1) C dX1_runsBy_31 rfl ?_
    refine ow_istore (L' := [.ref p0, .ref p1, .int x2, .int x3, .int x4, .int 1, Value.null, Value.null]) C dX1_runsBy_32 (by decide) rfl ?_
    exact Sat.mask hh (mk_y (mk_y (mk_y (mk_n (mk_y (mk_y (mk_n (mk_n mk_0))))))))
  · skip
    refine ow_aload_n C dX1_runsBy_14 rfl rfl ?_
    refine ow_getR (ci := 1) (k := 2) (T := TX1) C rfl igX1 (by decide) kw_241 dX1_runsBy_15 hh (fun q1 hh => ?_)
    refine ow_iload C dX1_runsBy_18 rfl ?_
    refine ow_iload_n C dX1_runsBy_20 rfl rfl ?_
    refine ow_iload C dX1_runsBy_21 rfl ?_
    refine ow_iadd C dX1_runsBy_23 ?_
    refine ow_iastore C dX1_runsBy_24 hh (fun h2 hh => ?_)
    refine ow_iinc (v := x5 + 1) (L' := [.ref p0, .ref p1, .int x2, .int x3, .int x4, .int (x5 + 1), Value.null, Value.null]) C dX1_runsBy_25 rfl rfl (by decide) rfl ?_
    refine ow_goto (tgt := 7) C dX1_runsBy_28 (by decide) ?_
    exact Sat.mask hh (mk_y (mk_y (mk_y (mk_y (mk_y (mk_y (mk_n (mk_n mk_0))))))))
def sm_X1_runsBy_0 (K7 : Nat → Nat → Int32 → Int32 → Int32 → Int32 → aw_H → Prop) (K34 : Nat → Nat → Int32 → Int32 → Int32 → aw_H → Prop) (K48 : Nat → Nat → Int32 → Int32 → Int32 → Int32 → Int32 → aw_H → Prop) (Q : aw_R) (p0 : Nat) (p1 : Nat) (x2 : Int32) (x3 : Int32) (x4 : Int32) (h : aw_H) : Prop :=
  sv_O h p0 1 (tr_X1_learnRuns [.ref p0] h fun r2 h1 => sr_V r2 <| K7 p0 p1 x2 x3 x4 0 h1)
set_option maxRecDepth 100000 in
set_option maxHeartbeats 4000000 in
theorem bl_X1_runsBy_0 {X : aw_X} {Q : aw_R} (C : aw_C X cX1_runsBy RX1 8 5) (Z : aw_Z X cX1_runsBy (some .int) Q) (p0 : Nat) (p1 : Nat) (x2 : Int32) (x3 : Int32) (x4 : Int32) (h : aw_H) (hh : sm_X1_runsBy_0 (fun (p0 : Nat) (p1 : Nat) (x2 : Int32) (x3 : Int32) (x4 : Int32) (x5 : Int32) (h : aw_H) => Sat X 7 [.ref p0, .ref p1, .int x2, .int x3, .int x4, .int x5, Value.null, Value.null] [] h) (fun (p0 : Nat) (p1 : Nat) (x2 : Int32) (x4 : Int32) (x5 : Int32) (h : aw_H) => Sat X 34 [.ref p0, .ref p1, .int x2, Value.null, .int x4, .int x5, Value.null, Value.null] [] h) (fun (p0 : Nat) (p1 : Nat) (x2 : Int32) (x4 : Int32) (x5 : Int32) (x6 : Int32) (x7 : Int32) (h : aw_H) => Sat X 48 [.ref p0, .ref p1, .int x2, Value.null, .int x4, .int x5, .int x6, .int x7] [] h) Q p0 p1 x2 x3 x4 h) : Sat X 0 [.ref p0, .ref p1, .int x2, .int x3, .int x4, Value.null, Value.null, Value.null] [] h := by
  unfold sm_X1_runsBy_0 at hh
  refine ow_aload_n C dX1_runsBy_0 rfl rfl ?_
  refine ow_callV C (cv_X1_learnRuns _) (Nat.le_of_ble_eq_true rfl) kw_227 dX1_runsBy_1 (as := []) (st := []) rfl rfl (Nat.le_of_ble_eq_true rfl) hh (fun r2 h1 hq => ?_)
  obtain ⟨rfl, hh⟩ := sr_V_e hq
  show Sat X 4 [.ref p0, .ref p1, .int x2, .int x3, .int x4, Value.null, Value.null, Value.null] [] h1
  refine ow_iconst (v := 0) C dX1_runsBy_4 rfl ?_
  refine ow_istore (L' := [.ref p0, .ref p1, .int x2, .int x3, .int x4, .int 0, Value.null, Value.null]) C dX1_runsBy_5 (by decide) rfl ?_
  exact Sat.mask hh (mk_y (mk_y (mk_y (mk_y (mk_y (mk_y (mk_n (mk_n mk_0))))))))
def tr_X1_runsBy : aw_T := fun as h Q => ∃ (p0 : Nat) (p1 : Nat) (x2 : Int32) (x3 : Int32) (x4 : Int32), as = [.ref p0, .ref p1, .int x2, .int x3, .int x4] ∧ (∀ (K7 : Nat → Nat → Int32 → Int32 → Int32 → Int32 → aw_H → Prop) (K34 : Nat → Nat → Int32 → Int32 → Int32 → aw_H → Prop) (K48 : Nat → Nat → Int32 → Int32 → Int32 → Int32 → Int32 → aw_H → Prop), (∀ (p0 : Nat) (p1 : Nat) (x2 : Int32) (x3 : Int32) (x4 : Int32) (x5 : Int32) (h : aw_H), sm_X1_runsBy_7 K7 K34 K48 Q p0 p1 x2 x3 x4 x5 h → K7 p0 p1 x2 x3 x4 x5 h) → (∀ (p0 : Nat) (p1 : Nat) (x2 : Int32) (x4 : Int32) (x5 : Int32) (h : aw_H), sm_X1_runsBy_34 K7 K34 K48 Q p0 p1 x2 x4 x5 h → K34 p0 p1 x2 x4 x5 h) → (∀ (p0 : Nat) (p1 : Nat) (x2 : Int32) (x4 : Int32) (x5 : Int32) (x6 : Int32) (x7 : Int32) (h : aw_H), sm_X1_runsBy_48 K7 K34 K48 Q p0 p1 x2 x4 x5 x6 x7 h → K48 p0 p1 x2 x4 x5 x6 x7 h) → sm_X1_runsBy_0 K7 K34 K48 Q p0 p1 x2 x3 x4 h)
theorem tq_X1_runsBy {p0 : Nat} {p1 : Nat} {x2 : Int32} {x3 : Int32} {x4 : Int32} {h : aw_H} {Q : aw_R} : tr_X1_runsBy [.ref p0, .ref p1, .int x2, .int x3, .int x4] h Q ↔ (∀ (K7 : Nat → Nat → Int32 → Int32 → Int32 → Int32 → aw_H → Prop) (K34 : Nat → Nat → Int32 → Int32 → Int32 → aw_H → Prop) (K48 : Nat → Nat → Int32 → Int32 → Int32 → Int32 → Int32 → aw_H → Prop), (∀ (p0 : Nat) (p1 : Nat) (x2 : Int32) (x3 : Int32) (x4 : Int32) (x5 : Int32) (h : aw_H), sm_X1_runsBy_7 K7 K34 K48 Q p0 p1 x2 x3 x4 x5 h → K7 p0 p1 x2 x3 x4 x5 h) → (∀ (p0 : Nat) (p1 : Nat) (x2 : Int32) (x4 : Int32) (x5 : Int32) (h : aw_H), sm_X1_runsBy_34 K7 K34 K48 Q p0 p1 x2 x4 x5 h → K34 p0 p1 x2 x4 x5 h) → (∀ (p0 : Nat) (p1 : Nat) (x2 : Int32) (x4 : Int32) (x5 : Int32) (x6 : Int32) (x7 : Int32) (h : aw_H), sm_X1_runsBy_48 K7 K34 K48 Q p0 p1 x2 x4 x5 x6 x7 h → K48 p0 p1 x2 x4 x5 x6 x7 h) → sm_X1_runsBy_0 K7 K34 K48 Q p0 p1 x2 x3 x4 h) := by
  constructor
  · rintro ⟨_, _, _, _, _, as0, hh⟩
    cases as0
    exact hh
  · intro hh
    exact ⟨_, _, _, _, _, rfl, hh⟩
theorem ct_X1_runsBy (E : aw_F) : CT E yX1_runsBy cX1_runsBy 8 (some .int) 5 tr_X1_runsBy := by
  refine ct_of (by decide) ?_
  intro X Q as h hE C Z hG
  subst hE
  obtain ⟨p0, p1, x2, x3, x4, rfl, hh⟩ := hG
  refine ⟨[.ref p0, .ref p1, .int x2, .int x3, .int x4, Value.null, Value.null, Value.null], rfl, Nat.le_of_ble_eq_true rfl, ?_⟩
  exact bl_X1_runsBy_0 C Z p0 p1 x2 x3 x4 h (hh (fun (p0 : Nat) (p1 : Nat) (x2 : Int32) (x3 : Int32) (x4 : Int32) (x5 : Int32) (h : aw_H) => Sat X 7 [.ref p0, .ref p1, .int x2, .int x3, .int x4, .int x5, Value.null, Value.null] [] h) (fun (p0 : Nat) (p1 : Nat) (x2 : Int32) (x4 : Int32) (x5 : Int32) (h : aw_H) => Sat X 34 [.ref p0, .ref p1, .int x2, Value.null, .int x4, .int x5, Value.null, Value.null] [] h) (fun (p0 : Nat) (p1 : Nat) (x2 : Int32) (x4 : Int32) (x5 : Int32) (x6 : Int32) (x7 : Int32) (h : aw_H) => Sat X 48 [.ref p0, .ref p1, .int x2, Value.null, .int x4, .int x5, .int x6, .int x7] [] h) (fun p0 p1 x2 x3 x4 x5 h hh => bl_X1_runsBy_7 C Z p0 p1 x2 x3 x4 x5 h hh) (fun p0 p1 x2 x4 x5 h hh => bl_X1_runsBy_34 C Z p0 p1 x2 x4 x5 h hh) (fun p0 p1 x2 x4 x5 x6 x7 h hh => bl_X1_runsBy_48 C Z p0 p1 x2 x4 x5 x6 x7 h hh))
theorem cv_X1_runsBy (E : aw_F) : CV E yX1_runsBy cX1_runsBy 8 (some .int) 5 4 1 tr_X1_runsBy := ⟨ct_X1_runsBy E, by decide, kw_306, kw_307, kw_203, kw_305, by decide +kernel, _, _, rfl⟩
