theorem dX5_add_0 : decode cX5_add 0 = .ok (.aload_n 0, 1) := by decide +kernel
theorem dX5_add_1 : decode cX5_add 1 = .ok (.getfield 15, 3) := by decide +kernel
theorem dX5_add_4 : decode cX5_add 4 = .ok (.bipush 110, 2) := by decide +kernel
theorem dX5_add_6 : decode cX5_add 6 = .ok (.if_icmp .lt 5, 3) := by decide +kernel
theorem dX5_add_9 : decode cX5_add 9 = .ok (.iconst 0, 1) := by decide +kernel
theorem dX5_add_10 : decode cX5_add 10 = .ok (.ireturn, 1) := by decide +kernel
theorem dX5_add_11 : decode cX5_add 11 = .ok (.aload_n 0, 1) := by decide +kernel
theorem dX5_add_12 : decode cX5_add 12 = .ok (.getfield 9, 3) := by decide +kernel
theorem dX5_add_15 : decode cX5_add 15 = .ok (.aload_n 0, 1) := by decide +kernel
theorem dX5_add_16 : decode cX5_add 16 = .ok (.getfield 15, 3) := by decide +kernel
theorem dX5_add_19 : decode cX5_add 19 = .ok (.iload_n 1, 1) := by decide +kernel
theorem dX5_add_20 : decode cX5_add 20 = .ok (.castore, 1) := by decide +kernel
theorem dX5_add_21 : decode cX5_add 21 = .ok (.aload_n 0, 1) := by decide +kernel
theorem dX5_add_22 : decode cX5_add 22 = .ok (.dup, 1) := by decide +kernel
theorem dX5_add_23 : decode cX5_add 23 = .ok (.getfield 15, 3) := by decide +kernel
theorem dX5_add_26 : decode cX5_add 26 = .ok (.iconst 1, 1) := by decide +kernel
theorem dX5_add_27 : decode cX5_add 27 = .ok (.iadd, 1) := by decide +kernel
theorem dX5_add_28 : decode cX5_add 28 = .ok (.putfield 15, 3) := by decide +kernel
theorem dX5_add_31 : decode cX5_add 31 = .ok (.iconst 1, 1) := by decide +kernel
theorem dX5_add_32 : decode cX5_add 32 = .ok (.ireturn, 1) := by decide +kernel
def sm_X5_add_0  (Q : aw_R) (p0 : Nat) (x1 : Int32) (h : aw_H) : Prop :=
  sg_I h p0 4 1 fun v1 => if v1 < 110 then (sg_R h p0 4 0 fun q2 => sg_I h p0 4 1 fun v3 => ss_C h q2 v3 x1 fun h4 => sg_I h4 p0 4 1 fun v5 => sp_I h4 p0 4 1 (v5 + 1) fun h6 => Q (some (.int 1)) h6) else (Q (some (.int 0)) h)
set_option maxRecDepth 100000 in
set_option maxHeartbeats 4000000 in
theorem bl_X5_add_0 {X : aw_X} {Q : aw_R} (C : aw_C X cX5_add RX5 2 0) (Z : aw_Z X cX5_add (some .boolean) Q) (p0 : Nat) (x1 : Int32) (h : aw_H) (hh : sm_X5_add_0  Q p0 x1 h) : Sat X 0 [.ref p0, .int x1] [] h := by
  unfold sm_X5_add_0 at hh
  refine ow_aload_n C dX5_add_0 rfl rfl ?_
  refine ow_getI (ci := 4) (k := 1) (T := TX5) C rfl igX5 (by decide) kw_146 dX5_add_1 hh (fun v1 hh => ?_)
  refine ow_bipush (v := 110) C dX5_add_4 rfl ?_
  refine ow_icmp_lt (tgt := 11) C dX5_add_6 (by decide) hh (fun hh => ?_) (fun hh => ?_)
  · skip
    refine ow_aload_n C dX5_add_11 rfl rfl ?_
    refine ow_getR (ci := 4) (k := 0) (T := TX5) C rfl igX5 (by decide) kw_147 dX5_add_12 hh (fun q2 hh => ?_)
    refine ow_aload_n C dX5_add_15 rfl rfl ?_
    refine ow_getI (ci := 4) (k := 1) (T := TX5) C rfl igX5 (by decide) kw_146 dX5_add_16 hh (fun v3 hh => ?_)
    refine ow_iload_n C dX5_add_19 rfl rfl ?_
    refine ow_castore C dX5_add_20 hh (fun h4 hh => ?_)
    refine ow_aload_n C dX5_add_21 rfl rfl ?_
    refine ow_dup C dX5_add_22 rfl ?_
    refine ow_getI (ci := 4) (k := 1) (T := TX5) C rfl igX5 (by decide) kw_146 dX5_add_23 hh (fun v5 hh => ?_)
    refine ow_iconst (v := 1) C dX5_add_26 rfl ?_
    refine ow_iadd C dX5_add_27 ?_
    refine ow_putI (ci := 4) (k := 1) (T := TX5) C rfl igX5 tyX5 tyX5_ok nmX5 (by decide) kw_146 rfl (by decide +kernel) dX5_add_28 hh (fun h6 hh => ?_)
    refine ow_iconst (v := 1) C dX5_add_31 rfl ?_
    exact ow_iret Z dX5_add_32 (Or.inr rfl) hh
  · skip
    refine ow_iconst (v := 0) C dX5_add_9 rfl ?_
    exact ow_iret Z dX5_add_10 (Or.inl rfl) hh
def tr_X5_add : aw_T := fun as h Q => ∃ (p0 : Nat) (x1 : Int32), as = [.ref p0, .int x1] ∧ (sm_X5_add_0  Q p0 x1 h)
theorem tq_X5_add {p0 : Nat} {x1 : Int32} {h : aw_H} {Q : aw_R} : tr_X5_add [.ref p0, .int x1] h Q ↔ (sm_X5_add_0  Q p0 x1 h) := by
  constructor
  · rintro ⟨_, _, as0, hh⟩
    cases as0
    exact hh
  · intro hh
    exact ⟨_, _, rfl, hh⟩
theorem ct_X5_add (E : aw_F) : CT E yX5_add cX5_add 2 (some .boolean) 0 tr_X5_add := by
  refine ct_of (by decide) ?_
  intro X Q as h hE C Z hG
  subst hE
  obtain ⟨p0, x1, rfl, hh⟩ := hG
  refine ⟨[.ref p0, .int x1], rfl, Nat.le_of_ble_eq_true rfl, ?_⟩
  exact bl_X5_add_0 C Z p0 x1 h hh
theorem cv_X5_add (E : aw_F) : CV E yX5_add cX5_add 2 (some .boolean) 0 1 4 tr_X5_add := ⟨ct_X5_add E, by decide, kw_150, kw_151, kw_149, kw_148, by decide +kernel, _, _, rfl⟩
theorem dX5_skipBlanks_0 : decode cX5_skipBlanks 0 = .ok (.aload_n 0, 1) := by decide +kernel
theorem dX5_skipBlanks_1 : decode cX5_skipBlanks 1 = .ok (.getfield 19, 3) := by decide +kernel
theorem dX5_skipBlanks_4 : decode cX5_skipBlanks 4 = .ok (.aload_n 0, 1) := by decide +kernel
theorem dX5_skipBlanks_5 : decode cX5_skipBlanks 5 = .ok (.getfield 15, 3) := by decide +kernel
theorem dX5_skipBlanks_8 : decode cX5_skipBlanks 8 = .ok (.if_icmp .ge 30, 3) := by decide +kernel
theorem dX5_skipBlanks_11 : decode cX5_skipBlanks 11 = .ok (.aload_n 0, 1) := by decide +kernel
theorem dX5_skipBlanks_12 : decode cX5_skipBlanks 12 = .ok (.getfield 9, 3) := by decide +kernel
theorem dX5_skipBlanks_15 : decode cX5_skipBlanks 15 = .ok (.aload_n 0, 1) := by decide +kernel
theorem dX5_skipBlanks_16 : decode cX5_skipBlanks 16 = .ok (.getfield 19, 3) := by decide +kernel
theorem dX5_skipBlanks_19 : decode cX5_skipBlanks 19 = .ok (.caload, 1) := by decide +kernel
theorem dX5_skipBlanks_20 : decode cX5_skipBlanks 20 = .ok (.bipush 32, 2) := by decide +kernel
theorem dX5_skipBlanks_22 : decode cX5_skipBlanks 22 = .ok (.if_icmp .ne 16, 3) := by decide +kernel
theorem dX5_skipBlanks_25 : decode cX5_skipBlanks 25 = .ok (.aload_n 0, 1) := by decide +kernel
theorem dX5_skipBlanks_26 : decode cX5_skipBlanks 26 = .ok (.dup, 1) := by decide +kernel
theorem dX5_skipBlanks_27 : decode cX5_skipBlanks 27 = .ok (.getfield 19, 3) := by decide +kernel
theorem dX5_skipBlanks_30 : decode cX5_skipBlanks 30 = .ok (.iconst 1, 1) := by decide +kernel
theorem dX5_skipBlanks_31 : decode cX5_skipBlanks 31 = .ok (.iadd, 1) := by decide +kernel
theorem dX5_skipBlanks_32 : decode cX5_skipBlanks 32 = .ok (.putfield 19, 3) := by decide +kernel
theorem dX5_skipBlanks_35 : decode cX5_skipBlanks 35 = .ok (.goto (-35), 3) := by decide +kernel
theorem dX5_skipBlanks_38 : decode cX5_skipBlanks 38 = .ok (.return_, 1) := by decide +kernel
def sm_X5_skipBlanks_0 (K0 : Nat → aw_H → Prop) (Q : aw_R) (p0 : Nat) (h : aw_H) : Prop :=
  sg_I h p0 4 2 fun v1 => sg_I h p0 4 1 fun v2 => if v2 ≤ v1 then (Q none h) else (sg_R h p0 4 0 fun q3 => sg_I h p0 4 2 fun v4 => sa_C h q3 v4 fun v5 => if ¬ v5 = 32 then (Q none h) else (sg_I h p0 4 2 fun v6 => sp_I h p0 4 2 (v6 + 1) fun h7 => K0 p0 h7))
set_option maxRecDepth 100000 in
set_option maxHeartbeats 4000000 in
theorem bl_X5_skipBlanks_0 {X : aw_X} {Q : aw_R} (C : aw_C X cX5_skipBlanks RX5 1 0) (Z : aw_Z X cX5_skipBlanks none Q) (p0 : Nat) (h : aw_H) (hh : sm_X5_skipBlanks_0 (fun (p0 : Nat) (h : aw_H) => Sat X 0 [.ref p0] [] h) Q p0 h) : Sat X 0 [.ref p0] [] h := by
  unfold sm_X5_skipBlanks_0 at hh
  refine ow_aload_n C dX5_skipBlanks_0 rfl rfl ?_
  refine ow_getI (ci := 4) (k := 2) (T := TX5) C rfl igX5 (by decide) kw_152 dX5_skipBlanks_1 hh (fun v1 hh => ?_)
  refine ow_aload_n C dX5_skipBlanks_4 rfl rfl ?_
  refine ow_getI (ci := 4) (k := 1) (T := TX5) C rfl igX5 (by decide) kw_146 dX5_skipBlanks_5 hh (fun v2 hh => ?_)
  refine ow_icmp_ge (tgt := 38) C dX5_skipBlanks_8 (by decide) hh (fun hh => ?_) (fun hh => ?_)
  · skip
    exact ow_vret Z dX5_skipBlanks_38 trivial hh
  · skip
    refine ow_aload_n C dX5_skipBlanks_11 rfl rfl ?_
    refine ow_getR (ci := 4) (k := 0) (T := TX5) C rfl igX5 (by decide) kw_147 dX5_skipBlanks_12 hh (fun q3 hh => ?_)
    refine ow_aload_n C dX5_skipBlanks_15 rfl rfl ?_
    refine ow_getI (ci := 4) (k := 2) (T := TX5) C rfl igX5 (by decide) kw_152 dX5_skipBlanks_16 hh (fun v4 hh => ?_)
    refine ow_caload C dX5_skipBlanks_19 hh (fun v5 hh => ?_)
    refine ow_bipush (v := 32) C dX5_skipBlanks_20 rfl ?_
    refine ow_icmp_ne (tgt := 38) C dX5_skipBlanks_22 (by decide) hh (fun hh => ?_) (fun hh => ?_)
    · skip
      exact ow_vret Z dX5_skipBlanks_38 trivial hh
    · skip
      refine ow_aload_n C dX5_skipBlanks_25 rfl rfl ?_
      refine ow_dup C dX5_skipBlanks_26 rfl ?_
      refine ow_getI (ci := 4) (k := 2) (T := TX5) C rfl igX5 (by decide) kw_152 dX5_skipBlanks_27 hh (fun v6 hh => ?_)
      refine ow_iconst (v := 1) C dX5_skipBlanks_30 rfl ?_
      refine ow_iadd C dX5_skipBlanks_31 ?_
      refine ow_putI (ci := 4) (k := 2) (T := TX5) C rfl igX5 tyX5 tyX5_ok nmX5 (by decide) kw_152 rfl (by decide +kernel) dX5_skipBlanks_32 hh (fun h7 hh => ?_)
      refine ow_goto (tgt := 0) C dX5_skipBlanks_35 (by decide) ?_
      exact Sat.mask hh (mk_y mk_0)
def tr_X5_skipBlanks : aw_T := fun as h Q => ∃ (p0 : Nat), as = [.ref p0] ∧ (∀ (K0 : Nat → aw_H → Prop), (∀ (p0 : Nat) (h : aw_H), sm_X5_skipBlanks_0 K0 Q p0 h → K0 p0 h) → K0 p0 h)
theorem tq_X5_skipBlanks {p0 : Nat} {h : aw_H} {Q : aw_R} : tr_X5_skipBlanks [.ref p0] h Q ↔ (∀ (K0 : Nat → aw_H → Prop), (∀ (p0 : Nat) (h : aw_H), sm_X5_skipBlanks_0 K0 Q p0 h → K0 p0 h) → K0 p0 h) := by
  constructor
  · rintro ⟨_, as0, hh⟩
    cases as0
    exact hh
  · intro hh
    exact ⟨_, rfl, hh⟩
theorem ct_X5_skipBlanks (E : aw_F) : CT E yX5_skipBlanks cX5_skipBlanks 1 none 0 tr_X5_skipBlanks := by
  refine ct_of (by decide) ?_
  intro X Q as h hE C Z hG
  subst hE
  obtain ⟨p0, rfl, hh⟩ := hG
  refine ⟨[.ref p0], rfl, Nat.le_of_ble_eq_true rfl, ?_⟩
  exact Sat.mask (hh (fun (p0 : Nat) (h : aw_H) => Sat X 0 [.ref p0] [] h) (fun p0 h hh => bl_X5_skipBlanks_0 C Z p0 h hh)) (mk_y mk_0)
theorem cv_X5_skipBlanks (E : aw_F) : CV E yX5_skipBlanks cX5_skipBlanks 1 none 0 0 4 tr_X5_skipBlanks := ⟨ct_X5_skipBlanks E, by decide, kw_154, kw_155, kw_149, kw_153, by decide +kernel, _, _, rfl⟩
theorem dX5_digitHere_0 : decode cX5_digitHere 0 = .ok (.aload_n 0, 1) := by decide +kernel
theorem dX5_digitHere_1 : decode cX5_digitHere 1 = .ok (.getfield 19, 3) := by decide +kernel
theorem dX5_digitHere_4 : decode cX5_digitHere 4 = .ok (.aload_n 0, 1) := by decide +kernel
theorem dX5_digitHere_5 : decode cX5_digitHere 5 = .ok (.getfield 15, 3) := by decide +kernel
theorem dX5_digitHere_8 : decode cX5_digitHere 8 = .ok (.if_icmp .ge 31, 3) := by decide +kernel
theorem dX5_digitHere_11 : decode cX5_digitHere 11 = .ok (.aload_n 0, 1) := by decide +kernel
theorem dX5_digitHere_12 : decode cX5_digitHere 12 = .ok (.getfield 9, 3) := by decide +kernel
theorem dX5_digitHere_15 : decode cX5_digitHere 15 = .ok (.aload_n 0, 1) := by decide +kernel
theorem dX5_digitHere_16 : decode cX5_digitHere 16 = .ok (.getfield 19, 3) := by decide +kernel
theorem dX5_digitHere_19 : decode cX5_digitHere 19 = .ok (.caload, 1) := by decide +kernel
theorem dX5_digitHere_20 : decode cX5_digitHere 20 = .ok (.bipush 48, 2) := by decide +kernel
theorem dX5_digitHere_22 : decode cX5_digitHere 22 = .ok (.if_icmp .lt 17, 3) := by decide +kernel
theorem dX5_digitHere_25 : decode cX5_digitHere 25 = .ok (.aload_n 0, 1) := by decide +kernel
theorem dX5_digitHere_26 : decode cX5_digitHere 26 = .ok (.getfield 9, 3) := by decide +kernel
theorem dX5_digitHere_29 : decode cX5_digitHere 29 = .ok (.aload_n 0, 1) := by decide +kernel
theorem dX5_digitHere_30 : decode cX5_digitHere 30 = .ok (.getfield 19, 3) := by decide +kernel
theorem dX5_digitHere_33 : decode cX5_digitHere 33 = .ok (.caload, 1) := by decide +kernel
theorem dX5_digitHere_34 : decode cX5_digitHere 34 = .ok (.bipush 57, 2) := by decide +kernel
theorem dX5_digitHere_36 : decode cX5_digitHere 36 = .ok (.if_icmp .le 5, 3) := by decide +kernel
theorem dX5_digitHere_39 : decode cX5_digitHere 39 = .ok (.iconst (-1), 1) := by decide +kernel
theorem dX5_digitHere_40 : decode cX5_digitHere 40 = .ok (.ireturn, 1) := by decide +kernel
theorem dX5_digitHere_41 : decode cX5_digitHere 41 = .ok (.aload_n 0, 1) := by decide +kernel
theorem dX5_digitHere_42 : decode cX5_digitHere 42 = .ok (.getfield 9, 3) := by decide +kernel
theorem dX5_digitHere_45 : decode cX5_digitHere 45 = .ok (.aload_n 0, 1) := by decide +kernel
theorem dX5_digitHere_46 : decode cX5_digitHere 46 = .ok (.getfield 19, 3) := by decide +kernel
theorem dX5_digitHere_49 : decode cX5_digitHere 49 = .ok (.caload, 1) := by decide +kernel
theorem dX5_digitHere_50 : decode cX5_digitHere 50 = .ok (.bipush 48, 2) := by decide +kernel
theorem dX5_digitHere_52 : decode cX5_digitHere 52 = .ok (.isub, 1) := by decide +kernel
theorem dX5_digitHere_53 : decode cX5_digitHere 53 = .ok (.ireturn, 1) := by decide +kernel
def sm_X5_digitHere_0  (Q : aw_R) (p0 : Nat) (h : aw_H) : Prop :=
  sg_I h p0 4 2 fun v1 => sg_I h p0 4 1 fun v2 => if v2 ≤ v1 then (Q (some (.int ((-1)))) h) else (sg_R h p0 4 0 fun q3 => sg_I h p0 4 2 fun v4 => sa_C h q3 v4 fun v5 => if v5 < 48 then (Q (some (.int ((-1)))) h) else (sg_R h p0 4 0 fun q6 => sg_I h p0 4 2 fun v7 => sa_C h q6 v7 fun v8 => if v8 ≤ 57 then (sg_R h p0 4 0 fun q9 => sg_I h p0 4 2 fun v10 => sa_C h q9 v10 fun v11 => Q (some (.int (v11 - 48))) h) else (Q (some (.int ((-1)))) h)))
set_option maxRecDepth 100000 in
set_option maxHeartbeats 4000000 in
theorem bl_X5_digitHere_0 {X : aw_X} {Q : aw_R} (C : aw_C X cX5_digitHere RX5 1 0) (Z : aw_Z X cX5_digitHere (some .int) Q) (p0 : Nat) (h : aw_H) (hh : sm_X5_digitHere_0  Q p0 h) : Sat X 0 [.ref p0] [] h := by
  unfold sm_X5_digitHere_0 at hh
  refine ow_aload_n C dX5_digitHere_0 rfl rfl ?_
  refine ow_getI (ci := 4) (k := 2) (T := TX5) C rfl igX5 (by decide) kw_152 dX5_digitHere_1 hh (fun v1 hh => ?_)
  refine ow_aload_n C dX5_digitHere_4 rfl rfl ?_
  refine ow_getI (ci := 4) (k := 1) (T := TX5) C rfl igX5 (by decide) kw_146 dX5_digitHere_5 hh (fun v2 hh => ?_)
  refine ow_icmp_ge (tgt := 39) C dX5_digitHere_8 (by decide) hh (fun hh => ?_) (fun hh => ?_)
  · skip
    refine ow_iconst (v := (-1)) C dX5_digitHere_39 rfl ?_
    exact ow_iret Z dX5_digitHere_40 trivial hh
  · skip
    refine ow_aload_n C dX5_digitHere_11 rfl rfl ?_
    refine ow_getR (ci := 4) (k := 0) (T := TX5) C rfl igX5 (by decide) kw_147 dX5_digitHere_12 hh (fun q3 hh => ?_)
    refine ow_aload_n C dX5_digitHere_15 rfl rfl ?_
    refine ow_getI (ci := 4) (k := 2) (T := TX5) C rfl igX5 (by decide) kw_152 dX5_digitHere_16 hh (fun v4 hh => ?_)
    refine ow_caload C dX5_digitHere_19 hh (fun v5 hh => ?_)
    refine ow_bipush (v := 48) C dX5_digitHere_20 rfl ?_
    refine ow_icmp_lt (tgt := 39) C dX5_digitHere_22 (by decide) hh (fun hh => ?_) (fun hh => ?_)
    · skip
      refine ow_iconst (v := (-1)) C dX5_digitHere_39 rfl ?_
      exact ow_iret Z dX5_digitHere_40 trivial hh
    · skip
      refine ow_aload_n C dX5_digitHere_25 rfl rfl ?_
      refine ow_getR (ci := 4) (k := 0) (T := TX5) C rfl igX5 (by decide) kw_147 dX5_digitHere_26 hh (fun q6 hh => ?_)
      refine ow_aload_n C dX5_digitHere_29 rfl rfl ?_
      refine ow_getI (ci := 4) (k := 2) (T := TX5) C rfl igX5 (by decide) kw_152 dX5_digitHere_30 hh (fun v7 hh => ?_)
      refine ow_caload C dX5_digitHere_33 hh (fun v8 hh => ?_)
      refine ow_bipush (v := 57) C dX5_digitHere_34 rfl ?_
      refine ow_icmp_le (tgt := 41) C dX5_digitHere_36 (by decide) hh (fun hh => ?_) (fun hh => ?_)
      · skip
        refine ow_aload_n C dX5_digitHere_41 rfl rfl ?_
        refine ow_getR (ci := 4) (k := 0) (T := TX5) C rfl igX5 (by decide) kw_147 dX5_digitHere_42 hh (fun q9 hh => ?_)
        refine ow_aload_n C dX5_digitHere_45 rfl rfl ?_
        refine ow_getI (ci := 4) (k := 2) (T := TX5) C rfl igX5 (by decide) kw_152 dX5_digitHere_46 hh (fun v10 hh => ?_)
        refine ow_caload C dX5_digitHere_49 hh (fun v11 hh => ?_)
        refine ow_bipush (v := 48) C dX5_digitHere_50 rfl ?_
        refine ow_isub C dX5_digitHere_52 ?_
        exact ow_iret Z dX5_digitHere_53 trivial hh
      · skip
        refine ow_iconst (v := (-1)) C dX5_digitHere_39 rfl ?_
        exact ow_iret Z dX5_digitHere_40 trivial hh
def tr_X5_digitHere : aw_T := fun as h Q => ∃ (p0 : Nat), as = [.ref p0] ∧ (sm_X5_digitHere_0  Q p0 h)
theorem tq_X5_digitHere {p0 : Nat} {h : aw_H} {Q : aw_R} : tr_X5_digitHere [.ref p0] h Q ↔ (sm_X5_digitHere_0  Q p0 h) := by
  constructor
  · rintro ⟨_, as0, hh⟩
    cases as0
    exact hh
  · intro hh
    exact ⟨_, rfl, hh⟩
theorem ct_X5_digitHere (E : aw_F) : CT E yX5_digitHere cX5_digitHere 1 (some .int) 0 tr_X5_digitHere := by
  refine ct_of (by decide) ?_
  intro X Q as h hE C Z hG
  subst hE
  obtain ⟨p0, rfl, hh⟩ := hG
  refine ⟨[.ref p0], rfl, Nat.le_of_ble_eq_true rfl, ?_⟩
  exact bl_X5_digitHere_0 C Z p0 h hh
theorem cv_X5_digitHere (E : aw_F) : CV E yX5_digitHere cX5_digitHere 1 (some .int) 0 0 4 tr_X5_digitHere := ⟨ct_X5_digitHere E, by decide, kw_157, kw_158, kw_149, kw_156, by decide +kernel, _, _, rfl⟩
theorem dX5_readWires_0 : decode cX5_readWires 0 = .ok (.aload_n 0, 1) := by decide +kernel
theorem dX5_readWires_1 : decode cX5_readWires 1 = .ok (.invokevirtual 36, 3) := by decide +kernel
theorem dX5_readWires_4 : decode cX5_readWires 4 = .ok (.aload_n 0, 1) := by decide +kernel
theorem dX5_readWires_5 : decode cX5_readWires 5 = .ok (.invokevirtual 39, 3) := by decide +kernel
theorem dX5_readWires_8 : decode cX5_readWires 8 = .ok (.istore_n 2, 1) := by decide +kernel
theorem dX5_readWires_9 : decode cX5_readWires 9 = .ok (.iload_n 2, 1) := by decide +kernel
theorem dX5_readWires_10 : decode cX5_readWires 10 = .ok (.iconst 2, 1) := by decide +kernel
theorem dX5_readWires_11 : decode cX5_readWires 11 = .ok (.if_icmp .lt 9, 3) := by decide +kernel
theorem dX5_readWires_14 : decode cX5_readWires 14 = .ok (.iload_n 2, 1) := by decide +kernel
theorem dX5_readWires_15 : decode cX5_readWires 15 = .ok (.bipush 6, 2) := by decide +kernel
theorem dX5_readWires_17 : decode cX5_readWires 17 = .ok (.if_icmp .le 5, 3) := by decide +kernel
theorem dX5_readWires_20 : decode cX5_readWires 20 = .ok (.iconst 0, 1) := by decide +kernel
theorem dX5_readWires_21 : decode cX5_readWires 21 = .ok (.ireturn, 1) := by decide +kernel
theorem dX5_readWires_22 : decode cX5_readWires 22 = .ok (.aload_n 0, 1) := by decide +kernel
theorem dX5_readWires_23 : decode cX5_readWires 23 = .ok (.dup, 1) := by decide +kernel
theorem dX5_readWires_24 : decode cX5_readWires 24 = .ok (.getfield 19, 3) := by decide +kernel
theorem dX5_readWires_27 : decode cX5_readWires 27 = .ok (.iconst 1, 1) := by decide +kernel
theorem dX5_readWires_28 : decode cX5_readWires 28 = .ok (.iadd, 1) := by decide +kernel
theorem dX5_readWires_29 : decode cX5_readWires 29 = .ok (.putfield 19, 3) := by decide +kernel
theorem dX5_readWires_32 : decode cX5_readWires 32 = .ok (.aload_n 1, 1) := by decide +kernel
theorem dX5_readWires_33 : decode cX5_readWires 33 = .ok (.iload_n 2, 1) := by decide +kernel
theorem dX5_readWires_34 : decode cX5_readWires 34 = .ok (.invokevirtual 43, 3) := by decide +kernel
theorem dX5_readWires_37 : decode cX5_readWires 37 = .ok (.iconst 1, 1) := by decide +kernel
theorem dX5_readWires_38 : decode cX5_readWires 38 = .ok (.ireturn, 1) := by decide +kernel
def sm_X5_readWires_0  (Q : aw_R) (p0 : Nat) (p1 : Nat) (h : aw_H) : Prop :=
  sv_O h p0 4 (tr_X5_skipBlanks [.ref p0] h fun r2 h1 => sr_V r2 <| sv_O h1 p0 4 (tr_X5_digitHere [.ref p0] h1 fun r4 h3 => sr_I r4 fun v5 => if v5 < 2 then (Q (some (.int 0)) h3) else (if v5 ≤ 6 then (sg_I h3 p0 4 2 fun v6 => sp_I h3 p0 4 2 (v6 + 1) fun h7 => sv_O h7 p1 0 (tr_X0_clear [.ref p1, .int v5] h7 fun r9 h8 => sr_V r9 <| Q (some (.int 1)) h8)) else (Q (some (.int 0)) h3))))
set_option maxRecDepth 100000 in
set_option maxHeartbeats 4000000 in
theorem bl_X5_readWires_0 {X : aw_X} {Q : aw_R} (C : aw_C X cX5_readWires RX5 3 1) (Z : aw_Z X cX5_readWires (some .boolean) Q) (p0 : Nat) (p1 : Nat) (h : aw_H) (hh : sm_X5_readWires_0  Q p0 p1 h) : Sat X 0 [.ref p0, .ref p1, Value.null] [] h := by
  unfold sm_X5_readWires_0 at hh
  refine ow_aload_n C dX5_readWires_0 rfl rfl ?_
  refine ow_callV C (cv_X5_skipBlanks _) (Nat.le_of_ble_eq_true rfl) kw_159 dX5_readWires_1 (as := []) (st := []) rfl rfl (Nat.le_of_ble_eq_true rfl) hh (fun r2 h1 hq => ?_)
  obtain ⟨rfl, hh⟩ := sr_V_e hq
  show Sat X 4 [.ref p0, .ref p1, Value.null] [] h1
  refine ow_aload_n C dX5_readWires_4 rfl rfl ?_
  refine ow_callV C (cv_X5_digitHere _) (Nat.le_of_ble_eq_true rfl) kw_160 dX5_readWires_5 (as := []) (st := []) rfl rfl (Nat.le_of_ble_eq_true rfl) hh (fun r4 h3 hq => ?_)
  obtain ⟨v5, rfl, hh⟩ := sr_I_e hq
  show Sat X 8 [.ref p0, .ref p1, Value.null] [.int v5] h3
  refine ow_istore_n (L' := [.ref p0, .ref p1, .int v5]) C dX5_readWires_8 rfl (by decide) rfl ?_
  refine ow_iload_n C dX5_readWires_9 rfl rfl ?_
  refine ow_iconst (v := 2) C dX5_readWires_10 rfl ?_
  refine ow_icmp_lt (tgt := 20) C dX5_readWires_11 (by decide) hh (fun hh => ?_) (fun hh => ?_)
  · skip
    refine ow_iconst (v := 0) C dX5_readWires_20 rfl ?_
    exact ow_iret Z dX5_readWires_21 (Or.inl rfl) hh
  · skip
    refine ow_iload_n C dX5_readWires_14 rfl rfl ?_
    refine ow_bipush (v := 6) C dX5_readWires_15 rfl ?_
    refine ow_icmp_le (tgt := 22) C dX5_readWires_17 (by decide) hh (fun hh => ?_) (fun hh => ?_)
    · skip
      refine ow_aload_n C dX5_readWires_22 rfl rfl ?_
      refine ow_dup C dX5_readWires_23 rfl ?_
      refine ow_getI (ci := 4) (k := 2) (T := TX5) C rfl igX5 (by decide) kw_152 dX5_readWires_24 hh (fun v6 hh => ?_)
      refine ow_iconst (v := 1) C dX5_readWires_27 rfl ?_
      refine ow_iadd C dX5_readWires_28 ?_
      refine ow_putI (ci := 4) (k := 2) (T := TX5) C rfl igX5 tyX5 tyX5_ok nmX5 (by decide) kw_152 rfl (by decide +kernel) dX5_readWires_29 hh (fun h7 hh => ?_)
      refine ow_aload_n C dX5_readWires_32 rfl rfl ?_
      refine ow_iload_n C dX5_readWires_33 rfl rfl ?_
      refine ow_callV C (cv_X0_clear _) (Nat.le_of_ble_eq_true rfl) kw_161 dX5_readWires_34 (as := [.int v5]) (st := []) rfl rfl (Nat.le_of_ble_eq_true rfl) hh (fun r9 h8 hq => ?_)
      obtain ⟨rfl, hh⟩ := sr_V_e hq
      show Sat X 37 [.ref p0, .ref p1, .int v5] [] h8
      refine ow_iconst (v := 1) C dX5_readWires_37 rfl ?_
      exact ow_iret Z dX5_readWires_38 (Or.inr rfl) hh
    · skip
      refine ow_iconst (v := 0) C dX5_readWires_20 rfl ?_
      exact ow_iret Z dX5_readWires_21 (Or.inl rfl) hh
def tr_X5_readWires : aw_T := fun as h Q => ∃ (p0 : Nat) (p1 : Nat), as = [.ref p0, .ref p1] ∧ (sm_X5_readWires_0  Q p0 p1 h)
theorem tq_X5_readWires {p0 : Nat} {p1 : Nat} {h : aw_H} {Q : aw_R} : tr_X5_readWires [.ref p0, .ref p1] h Q ↔ (sm_X5_readWires_0  Q p0 p1 h) := by
  constructor
  · rintro ⟨_, _, as0, hh⟩
    cases as0
    exact hh
  · intro hh
    exact ⟨_, _, rfl, hh⟩
theorem ct_X5_readWires (E : aw_F) : CT E yX5_readWires cX5_readWires 3 (some .boolean) 1 tr_X5_readWires := by
  refine ct_of (by decide) ?_
  intro X Q as h hE C Z hG
  subst hE
  obtain ⟨p0, p1, rfl, hh⟩ := hG
  refine ⟨[.ref p0, .ref p1, Value.null], rfl, Nat.le_of_ble_eq_true rfl, ?_⟩
  exact bl_X5_readWires_0 C Z p0 p1 h hh
theorem cv_X5_readWires (E : aw_F) : CV E yX5_readWires cX5_readWires 3 (some .boolean) 1 1 4 tr_X5_readWires := ⟨ct_X5_readWires E, by decide, kw_163, kw_164, kw_149, kw_162, by decide +kernel, _, _, rfl⟩
theorem dX5_takes_0 : decode cX5_takes 0 = .ok (.aload_n 0, 1) := by decide +kernel
theorem dX5_takes_1 : decode cX5_takes 1 = .ok (.invokevirtual 36, 3) := by decide +kernel
theorem dX5_takes_4 : decode cX5_takes 4 = .ok (.aload_n 0, 1) := by decide +kernel
theorem dX5_takes_5 : decode cX5_takes 5 = .ok (.getfield 19, 3) := by decide +kernel
theorem dX5_takes_8 : decode cX5_takes 8 = .ok (.aload_n 0, 1) := by decide +kernel
theorem dX5_takes_9 : decode cX5_takes 9 = .ok (.getfield 15, 3) := by decide +kernel
theorem dX5_takes_12 : decode cX5_takes 12 = .ok (.if_icmp .ge 16, 3) := by decide +kernel
theorem dX5_takes_15 : decode cX5_takes 15 = .ok (.aload_n 0, 1) := by decide +kernel
theorem dX5_takes_16 : decode cX5_takes 16 = .ok (.getfield 9, 3) := by decide +kernel
theorem dX5_takes_19 : decode cX5_takes 19 = .ok (.aload_n 0, 1) := by decide +kernel
theorem dX5_takes_20 : decode cX5_takes 20 = .ok (.getfield 19, 3) := by decide +kernel
theorem dX5_takes_23 : decode cX5_takes 23 = .ok (.caload, 1) := by decide +kernel
theorem dX5_takes_24 : decode cX5_takes 24 = .ok (.iload_n 1, 1) := by decide +kernel
theorem dX5_takes_25 : decode cX5_takes 25 = .ok (.if_icmp .eq 5, 3) := by decide +kernel
theorem dX5_takes_28 : decode cX5_takes 28 = .ok (.iconst 0, 1) := by decide +kernel
theorem dX5_takes_29 : decode cX5_takes 29 = .ok (.ireturn, 1) := by decide +kernel
theorem dX5_takes_30 : decode cX5_takes 30 = .ok (.aload_n 0, 1) := by decide +kernel
theorem dX5_takes_31 : decode cX5_takes 31 = .ok (.dup, 1) := by decide +kernel
theorem dX5_takes_32 : decode cX5_takes 32 = .ok (.getfield 19, 3) := by decide +kernel
theorem dX5_takes_35 : decode cX5_takes 35 = .ok (.iconst 1, 1) := by decide +kernel
theorem dX5_takes_36 : decode cX5_takes 36 = .ok (.iadd, 1) := by decide +kernel
theorem dX5_takes_37 : decode cX5_takes 37 = .ok (.putfield 19, 3) := by decide +kernel
theorem dX5_takes_40 : decode cX5_takes 40 = .ok (.iconst 1, 1) := by decide +kernel
theorem dX5_takes_41 : decode cX5_takes 41 = .ok (.ireturn, 1) := by decide +kernel
def sm_X5_takes_0  (Q : aw_R) (p0 : Nat) (x1 : Int32) (h : aw_H) : Prop :=
  sv_O h p0 4 (tr_X5_skipBlanks [.ref p0] h fun r2 h1 => sr_V r2 <| sg_I h1 p0 4 2 fun v3 => sg_I h1 p0 4 1 fun v4 => if v4 ≤ v3 then (Q (some (.int 0)) h1) else (sg_R h1 p0 4 0 fun q5 => sg_I h1 p0 4 2 fun v6 => sa_C h1 q5 v6 fun v7 => if v7 = x1 then (sg_I h1 p0 4 2 fun v8 => sp_I h1 p0 4 2 (v8 + 1) fun h9 => Q (some (.int 1)) h9) else (Q (some (.int 0)) h1)))
set_option maxRecDepth 100000 in
set_option maxHeartbeats 4000000 in
theorem bl_X5_takes_0 {X : aw_X} {Q : aw_R} (C : aw_C X cX5_takes RX5 2 1) (Z : aw_Z X cX5_takes (some .boolean) Q) (p0 : Nat) (x1 : Int32) (h : aw_H) (hh : sm_X5_takes_0  Q p0 x1 h) : Sat X 0 [.ref p0, .int x1] [] h := by
  unfold sm_X5_takes_0 at hh
  refine ow_aload_n C dX5_takes_0 rfl rfl ?_
  refine ow_callV C (cv_X5_skipBlanks _) (Nat.le_of_ble_eq_true rfl) kw_159 dX5_takes_1 (as := []) (st := []) rfl rfl (Nat.le_of_ble_eq_true rfl) hh (fun r2 h1 hq => ?_)
  obtain ⟨rfl, hh⟩ := sr_V_e hq
  show Sat X 4 [.ref p0, .int x1] [] h1
  refine ow_aload_n C dX5_takes_4 rfl rfl ?_
  refine ow_getI (ci := 4) (k := 2) (T := TX5) C rfl igX5 (by decide) kw_152 dX5_takes_5 hh (fun v3 hh => ?_)
  refine ow_aload_n C dX5_takes_8 rfl rfl ?_
  refine ow_getI (ci := 4) (k := 1) (T := TX5) C rfl igX5 (by decide) kw_146 dX5_takes_9 hh (fun v4 hh => ?_)
  refine ow_icmp_ge (tgt := 28) C dX5_takes_12 (by decide) hh (fun hh => ?_) (fun hh => ?_)
  · skip
    refine ow_iconst (v := 0) C dX5_takes_28 rfl ?_
    exact ow_iret Z dX5_takes_29 (Or.inl rfl) hh
  · skip
    refine ow_aload_n C dX5_takes_15 rfl rfl ?_
    refine ow_getR (ci := 4) (k := 0) (T := TX5) C rfl igX5 (by decide) kw_147 dX5_takes_16 hh (fun q5 hh => ?_)
    refine ow_aload_n C dX5_takes_19 rfl rfl ?_
    refine ow_getI (ci := 4) (k := 2) (T := TX5) C rfl igX5 (by decide) kw_152 dX5_takes_20 hh (fun v6 hh => ?_)
    refine ow_caload C dX5_takes_23 hh (fun v7 hh => ?_)
    refine ow_iload_n C dX5_takes_24 rfl rfl ?_
    refine ow_icmp_eq (tgt := 30) C dX5_takes_25 (by decide) hh (fun hh => ?_) (fun hh => ?_)
    · skip
      refine ow_aload_n C dX5_takes_30 rfl rfl ?_
      refine ow_dup C dX5_takes_31 rfl ?_
      refine ow_getI (ci := 4) (k := 2) (T := TX5) C rfl igX5 (by decide) kw_152 dX5_takes_32 hh (fun v8 hh => ?_)
      refine ow_iconst (v := 1) C dX5_takes_35 rfl ?_
      refine ow_iadd C dX5_takes_36 ?_
      refine ow_putI (ci := 4) (k := 2) (T := TX5) C rfl igX5 tyX5 tyX5_ok nmX5 (by decide) kw_152 rfl (by decide +kernel) dX5_takes_37 hh (fun h9 hh => ?_)
      refine ow_iconst (v := 1) C dX5_takes_40 rfl ?_
      exact ow_iret Z dX5_takes_41 (Or.inr rfl) hh
    · skip
      refine ow_iconst (v := 0) C dX5_takes_28 rfl ?_
      exact ow_iret Z dX5_takes_29 (Or.inl rfl) hh
def tr_X5_takes : aw_T := fun as h Q => ∃ (p0 : Nat) (x1 : Int32), as = [.ref p0, .int x1] ∧ (sm_X5_takes_0  Q p0 x1 h)
theorem tq_X5_takes {p0 : Nat} {x1 : Int32} {h : aw_H} {Q : aw_R} : tr_X5_takes [.ref p0, .int x1] h Q ↔ (sm_X5_takes_0  Q p0 x1 h) := by
  constructor
  · rintro ⟨_, _, as0, hh⟩
    cases as0
    exact hh
  · intro hh
    exact ⟨_, _, rfl, hh⟩
theorem ct_X5_takes (E : aw_F) : CT E yX5_takes cX5_takes 2 (some .boolean) 1 tr_X5_takes := by
  refine ct_of (by decide) ?_
  intro X Q as h hE C Z hG
  subst hE
  obtain ⟨p0, x1, rfl, hh⟩ := hG
  refine ⟨[.ref p0, .int x1], rfl, Nat.le_of_ble_eq_true rfl, ?_⟩
  exact bl_X5_takes_0 C Z p0 x1 h hh
theorem cv_X5_takes (E : aw_F) : CV E yX5_takes cX5_takes 2 (some .boolean) 1 1 4 tr_X5_takes := ⟨ct_X5_takes E, by decide, kw_166, kw_167, kw_149, kw_165, by decide +kernel, _, _, rfl⟩
theorem dX5_readBits_0 : decode cX5_readBits 0 = .ok (.aload_n 0, 1) := by decide +kernel
theorem dX5_readBits_1 : decode cX5_readBits 1 = .ok (.bipush 61, 2) := by decide +kernel
theorem dX5_readBits_3 : decode cX5_readBits 3 = .ok (.invokevirtual 29, 3) := by decide +kernel
theorem dX5_readBits_6 : decode cX5_readBits 6 = .ok (.ifCond .ne 5, 3) := by decide +kernel
theorem dX5_readBits_9 : decode cX5_readBits 9 = .ok (.iconst 1, 1) := by decide +kernel
theorem dX5_readBits_10 : decode cX5_readBits 10 = .ok (.ireturn, 1) := by decide +kernel
theorem dX5_readBits_11 : decode cX5_readBits 11 = .ok (.aload_n 0, 1) := by decide +kernel
theorem dX5_readBits_12 : decode cX5_readBits 12 = .ok (.invokevirtual 36, 3) := by decide +kernel
theorem dX5_readBits_15 : decode cX5_readBits 15 = .ok (.aload_n 0, 1) := by decide +kernel
theorem dX5_readBits_16 : decode cX5_readBits 16 = .ok (.getfield 19, 3) := by decide +kernel
theorem dX5_readBits_19 : decode cX5_readBits 19 = .ok (.istore_n 2, 1) := by decide +kernel
theorem dX5_readBits_20 : decode cX5_readBits 20 = .ok (.aload_n 0, 1) := by decide +kernel
theorem dX5_readBits_21 : decode cX5_readBits 21 = .ok (.invokevirtual 39, 3) := by decide +kernel
theorem dX5_readBits_24 : decode cX5_readBits 24 = .ok (.istore_n 3, 1) := by decide +kernel
theorem dX5_readBits_25 : decode cX5_readBits 25 = .ok (.iload_n 3, 1) := by decide +kernel
theorem dX5_readBits_26 : decode cX5_readBits 26 = .ok (.ifCond .ge 5, 3) := by decide +kernel
theorem dX5_readBits_29 : decode cX5_readBits 29 = .ok (.iconst 0, 1) := by decide +kernel
theorem dX5_readBits_30 : decode cX5_readBits 30 = .ok (.ireturn, 1) := by decide +kernel
theorem dX5_readBits_31 : decode cX5_readBits 31 = .ok (.aload_n 0, 1) := by decide +kernel
theorem dX5_readBits_32 : decode cX5_readBits 32 = .ok (.dup, 1) := by decide +kernel
theorem dX5_readBits_33 : decode cX5_readBits 33 = .ok (.getfield 19, 3) := by decide +kernel
theorem dX5_readBits_36 : decode cX5_readBits 36 = .ok (.iconst 1, 1) := by decide +kernel
theorem dX5_readBits_37 : decode cX5_readBits 37 = .ok (.iadd, 1) := by decide +kernel
theorem dX5_readBits_38 : decode cX5_readBits 38 = .ok (.putfield 19, 3) := by decide +kernel
theorem dX5_readBits_41 : decode cX5_readBits 41 = .ok (.aload_n 0, 1) := by decide +kernel
theorem dX5_readBits_42 : decode cX5_readBits 42 = .ok (.invokevirtual 39, 3) := by decide +kernel
theorem dX5_readBits_45 : decode cX5_readBits 45 = .ok (.istore 4, 2) := by decide +kernel
theorem dX5_readBits_47 : decode cX5_readBits 47 = .ok (.iload 4, 2) := by decide +kernel
theorem dX5_readBits_49 : decode cX5_readBits 49 = .ok (.ifCond .lt 21, 3) := by decide +kernel
theorem dX5_readBits_52 : decode cX5_readBits 52 = .ok (.bipush 10, 2) := by decide +kernel
theorem dX5_readBits_54 : decode cX5_readBits 54 = .ok (.iload_n 3, 1) := by decide +kernel
theorem dX5_readBits_55 : decode cX5_readBits 55 = .ok (.imul, 1) := by decide +kernel
theorem dX5_readBits_56 : decode cX5_readBits 56 = .ok (.iload 4, 2) := by decide +kernel
theorem dX5_readBits_58 : decode cX5_readBits 58 = .ok (.iadd, 1) := by decide +kernel
theorem dX5_readBits_59 : decode cX5_readBits 59 = .ok (.istore_n 3, 1) := by decide +kernel
theorem dX5_readBits_60 : decode cX5_readBits 60 = .ok (.aload_n 0, 1) := by decide +kernel
theorem dX5_readBits_61 : decode cX5_readBits 61 = .ok (.dup, 1) := by decide +kernel
theorem dX5_readBits_62 : decode cX5_readBits 62 = .ok (.getfield 19, 3) := by decide +kernel
theorem dX5_readBits_65 : decode cX5_readBits 65 = .ok (.iconst 1, 1) := by decide +kernel
theorem dX5_readBits_66 : decode cX5_readBits 66 = .ok (.iadd, 1) := by decide +kernel
theorem dX5_readBits_67 : decode cX5_readBits 67 = .ok (.putfield 19, 3) := by decide +kernel
theorem dX5_readBits_70 : decode cX5_readBits 70 = .ok (.iload_n 3, 1) := by decide +kernel
theorem dX5_readBits_71 : decode cX5_readBits 71 = .ok (.aload_n 1, 1) := by decide +kernel
theorem dX5_readBits_72 : decode cX5_readBits 72 = .ok (.invokevirtual 49, 3) := by decide +kernel
theorem dX5_readBits_75 : decode cX5_readBits 75 = .ok (.if_icmp .lt 10, 3) := by decide +kernel
theorem dX5_readBits_78 : decode cX5_readBits 78 = .ok (.aload_n 0, 1) := by decide +kernel
theorem dX5_readBits_79 : decode cX5_readBits 79 = .ok (.iload_n 2, 1) := by decide +kernel
theorem dX5_readBits_80 : decode cX5_readBits 80 = .ok (.putfield 19, 3) := by decide +kernel
theorem dX5_readBits_83 : decode cX5_readBits 83 = .ok (.iconst 0, 1) := by decide +kernel
theorem dX5_readBits_84 : decode cX5_readBits 84 = .ok (.ireturn, 1) := by decide +kernel
theorem dX5_readBits_85 : decode cX5_readBits 85 = .ok (.aload_n 1, 1) := by decide +kernel
theorem dX5_readBits_86 : decode cX5_readBits 86 = .ok (.iload_n 3, 1) := by decide +kernel
theorem dX5_readBits_87 : decode cX5_readBits 87 = .ok (.putfield 52, 3) := by decide +kernel
theorem dX5_readBits_90 : decode cX5_readBits 90 = .ok (.iconst 1, 1) := by decide +kernel
theorem dX5_readBits_91 : decode cX5_readBits 91 = .ok (.ireturn, 1) := by decide +kernel
def sm_X5_readBits_0  (Q : aw_R) (p0 : Nat) (p1 : Nat) (h : aw_H) : Prop :=
  sv_O h p0 4 (tr_X5_takes [.ref p0, .int 61] h fun r2 h1 => sr_I r2 fun v3 => if ¬ v3 = 0 then (sv_O h1 p0 4 (tr_X5_skipBlanks [.ref p0] h1 fun r5 h4 => sr_V r5 <| sg_I h4 p0 4 2 fun v6 => sv_O h4 p0 4 (tr_X5_digitHere [.ref p0] h4 fun r8 h7 => sr_I r8 fun v9 => if 0 ≤ v9 then (sg_I h7 p0 4 2 fun v10 => sp_I h7 p0 4 2 (v10 + 1) fun h11 => sv_O h11 p0 4 (tr_X5_digitHere [.ref p0] h11 fun r13 h12 => sr_I r13 fun v14 => if v14 < 0 then (sv_O h12 p1 0 (tr_X0_states [.ref p1] h12 fun r16 h15 => sr_I r16 fun v17 => if v9 < v17 then (sp_I h15 p1 0 3 v9 fun h18 => Q (some (.int 1)) h18) else (sp_I h15 p0 4 2 v6 fun h19 => Q (some (.int 0)) h19))) else (sg_I h12 p0 4 2 fun v20 => sp_I h12 p0 4 2 (v20 + 1) fun h21 => sv_O h21 p1 0 (tr_X0_states [.ref p1] h21 fun r23 h22 => sr_I r23 fun v24 => if ((10 * v9) + v14) < v24 then (sp_I h22 p1 0 3 ((10 * v9) + v14) fun h25 => Q (some (.int 1)) h25) else (sp_I h22 p0 4 2 v6 fun h26 => Q (some (.int 0)) h26))))) else (Q (some (.int 0)) h7)))) else (Q (some (.int 1)) h1))
set_option maxRecDepth 100000 in
set_option maxHeartbeats 4000000 in
theorem bl_X5_readBits_0 {X : aw_X} {Q : aw_R} (C : aw_C X cX5_readBits RX5 5 2) (Z : aw_Z X cX5_readBits (some .boolean) Q) (p0 : Nat) (p1 : Nat) (h : aw_H) (hh : sm_X5_readBits_0  Q p0 p1 h) : Sat X 0 [.ref p0, .ref p1, Value.null, Value.null, Value.null] [] h := by
  unfold sm_X5_readBits_0 at hh
  refine ow_aload_n C dX5_readBits_0 rfl rfl ?_
  refine ow_bipush (v := 61) C dX5_readBits_1 rfl ?_
  refine ow_callV C (cv_X5_takes _) (Nat.le_of_ble_eq_true rfl) kw_168 dX5_readBits_3 (as := [.int 61]) (st := []) rfl rfl (Nat.le_of_ble_eq_true rfl) hh (fun r2 h1 hq => ?_)
  obtain ⟨v3, rfl, hh⟩ := sr_I_e hq
  show Sat X 6 [.ref p0, .ref p1, Value.null, Value.null, Value.null] [.int v3] h1
  refine ow_if_ne (tgt := 11) C dX5_readBits_6 (by decide) hh (fun hh => ?_) (fun hh => ?_)
  · skip
    refine ow_aload_n C dX5_readBits_11 rfl rfl ?_
    refine ow_callV C (cv_X5_skipBlanks _) (Nat.le_of_ble_eq_true rfl) kw_159 dX5_readBits_12 (as := []) (st := []) rfl rfl (Nat.le_of_ble_eq_true rfl) hh (fun r5 h4 hq => ?_)
    obtain ⟨rfl, hh⟩ := sr_V_e hq
    show Sat X 15 [.ref p0, .ref p1, Value.null, Value.null, Value.null] [] h4
    refine ow_aload_n C dX5_readBits_15 rfl rfl ?_
    refine ow_getI (ci := 4) (k := 2) (T := TX5) C rfl igX5 (by decide) kw_152 dX5_readBits_16 hh (fun v6 hh => ?_)
    refine ow_istore_n (L' := [.ref p0, .ref p1, .int v6, Value.null, Value.null]) C dX5_readBits_19 rfl (by decide) rfl ?_
    refine ow_aload_n C dX5_readBits_20 rfl rfl ?_
    refine ow_callV C (cv_X5_digitHere _) (Nat.le_of_ble_eq_true rfl) kw_160 dX5_readBits_21 (as := []) (st := []) rfl rfl (Nat.le_of_ble_eq_true rfl) hh (fun r8 h7 hq => ?_)
    obtain ⟨v9, rfl, hh⟩ := sr_I_e hq
    show Sat X 24 [.ref p0, .ref p1, .int v6, Value.null, Value.null] [.int v9] h7
    refine ow_istore_n (L' := [.ref p0, .ref p1, .int v6, .int v9, Value.null]) C dX5_readBits_24 rfl (by decide) rfl ?_
    refine ow_iload_n C dX5_readBits_25 rfl rfl ?_
    refine ow_if_ge (tgt := 31) C dX5_readBits_26 (by decide) hh (fun hh => ?_) (fun hh => ?_)
    · skip
      refine ow_aload_n C dX5_readBits_31 rfl rfl ?_
      refine ow_dup C dX5_readBits_32 rfl ?_
      refine ow_getI (ci := 4) (k := 2) (T := TX5) C rfl igX5 (by decide) kw_152 dX5_readBits_33 hh (fun v10 hh => ?_)
      refine ow_iconst (v := 1) C dX5_readBits_36 rfl ?_
      refine ow_iadd C dX5_readBits_37 ?_
      refine ow_putI (ci := 4) (k := 2) (T := TX5) C rfl igX5 tyX5 tyX5_ok nmX5 (by decide) kw_152 rfl (by decide +kernel) dX5_readBits_38 hh (fun h11 hh => ?_)
      refine ow_aload_n C dX5_readBits_41 rfl rfl ?_
      refine ow_callV C (cv_X5_digitHere _) (Nat.le_of_ble_eq_true rfl) kw_160 dX5_readBits_42 (as := []) (st := []) rfl rfl (Nat.le_of_ble_eq_true rfl) hh (fun r13 h12 hq => ?_)
      obtain ⟨v14, rfl, hh⟩ := sr_I_e hq
      show Sat X 45 [.ref p0, .ref p1, .int v6, .int v9, Value.null] [.int v14] h12
      refine ow_istore (L' := [.ref p0, .ref p1, .int v6, .int v9, .int v14]) C dX5_readBits_45 (by decide) rfl ?_
      refine ow_iload C dX5_readBits_47 rfl ?_
      refine ow_if_lt (tgt := 70) C dX5_readBits_49 (by decide) hh (fun hh => ?_) (fun hh => ?_)
      · skip
        refine ow_iload_n C dX5_readBits_70 rfl rfl ?_
        refine ow_aload_n C dX5_readBits_71 rfl rfl ?_
        refine ow_callV C (cv_X0_states _) (Nat.le_of_ble_eq_true rfl) kw_169 dX5_readBits_72 (as := []) (st := [.int v9]) rfl rfl (Nat.le_of_ble_eq_true rfl) hh (fun r16 h15 hq => ?_)
        obtain ⟨v17, rfl, hh⟩ := sr_I_e hq
        show Sat X 75 [.ref p0, .ref p1, .int v6, .int v9, .int v14] [.int v17, .int v9] h15
        refine ow_icmp_lt (tgt := 85) C dX5_readBits_75 (by decide) hh (fun hh => ?_) (fun hh => ?_)
        · skip
          refine ow_aload_n C dX5_readBits_85 rfl rfl ?_
          refine ow_iload_n C dX5_readBits_86 rfl rfl ?_
          refine ow_putI (ci := 0) (k := 3) (T := TX0) C rfl igX0 tyX0 tyX0_ok nmX0 (by decide) kw_170 rfl (by decide +kernel) dX5_readBits_87 hh (fun h18 hh => ?_)
          refine ow_iconst (v := 1) C dX5_readBits_90 rfl ?_
          exact ow_iret Z dX5_readBits_91 (Or.inr rfl) hh
        · skip
          refine ow_aload_n C dX5_readBits_78 rfl rfl ?_
          refine ow_iload_n C dX5_readBits_79 rfl rfl ?_
          refine ow_putI (ci := 4) (k := 2) (T := TX5) C rfl igX5 tyX5 tyX5_ok nmX5 (by decide) kw_152 rfl (by decide +kernel) dX5_readBits_80 hh (fun h19 hh => ?_)
          refine ow_iconst (v := 0) C dX5_readBits_83 rfl ?_
          exact ow_iret Z dX5_readBits_84 (Or.inl rfl) hh
      · skip
        refine ow_bipush (v := 10) C dX5_readBits_52 rfl ?_
        refine ow_iload_n C dX5_readBits_54 rfl rfl ?_
        refine ow_imul C dX5_readBits_55 ?_
        refine ow_iload C dX5_readBits_56 rfl ?_
        refine ow_iadd C dX5_readBits_58 ?_
        refine ow_istore_n (L' := [.ref p0, .ref p1, .int v6, .int ((10 * v9) + v14), .int v14]) C dX5_readBits_59 rfl (by decide) rfl ?_
        refine ow_aload_n C dX5_readBits_60 rfl rfl ?_
        refine ow_dup C dX5_readBits_61 rfl ?_
        refine ow_getI (ci := 4) (k := 2) (T := TX5) C rfl igX5 (by decide) kw_152 dX5_readBits_62 hh (fun v20 hh => ?_)
        refine ow_iconst (v := 1) C dX5_readBits_65 rfl ?_
        refine ow_iadd C dX5_readBits_66 ?_
        refine ow_putI (ci := 4) (k := 2) (T := TX5) C rfl igX5 tyX5 tyX5_ok nmX5 (by decide) kw_152 rfl (by decide +kernel) dX5_readBits_67 hh (fun h21 hh => ?_)
        refine ow_iload_n C dX5_readBits_70 rfl rfl ?_
        refine ow_aload_n C dX5_readBits_71 rfl rfl ?_
        refine ow_callV C (cv_X0_states _) (Nat.le_of_ble_eq_true rfl) kw_169 dX5_readBits_72 (as := []) (st := [.int ((10 * v9) + v14)]) rfl rfl (Nat.le_of_ble_eq_true rfl) hh (fun r23 h22 hq => ?_)
        obtain ⟨v24, rfl, hh⟩ := sr_I_e hq
        show Sat X 75 [.ref p0, .ref p1, .int v6, .int ((10 * v9) + v14), .int v14] [.int v24, .int ((10 * v9) + v14)] h22
        refine ow_icmp_lt (tgt := 85) C dX5_readBits_75 (by decide) hh (fun hh => ?_) (fun hh => ?_)
        · skip
          refine ow_aload_n C dX5_readBits_85 rfl rfl ?_
          refine ow_iload_n C dX5_readBits_86 rfl rfl ?_
          refine ow_putI (ci := 0) (k := 3) (T := TX0) C rfl igX0 tyX0 tyX0_ok nmX0 (by decide) kw_170 rfl (by decide +kernel) dX5_readBits_87 hh (fun h25 hh => ?_)
          refine ow_iconst (v := 1) C dX5_readBits_90 rfl ?_
          exact ow_iret Z dX5_readBits_91 (Or.inr rfl) hh
        · skip
          refine ow_aload_n C dX5_readBits_78 rfl rfl ?_
          refine ow_iload_n C dX5_readBits_79 rfl rfl ?_
          refine ow_putI (ci := 4) (k := 2) (T := TX5) C rfl igX5 tyX5 tyX5_ok nmX5 (by decide) kw_152 rfl (by decide +kernel) dX5_readBits_80 hh (fun h26 hh => ?_)
          refine ow_iconst (v := 0) C dX5_readBits_83 rfl ?_
          exact ow_iret Z dX5_readBits_84 (Or.inl rfl) hh
    · skip
      refine ow_iconst (v := 0) C dX5_readBits_29 rfl ?_
      exact ow_iret Z dX5_readBits_30 (Or.inl rfl) hh
  · skip
    refine ow_iconst (v := 1) C dX5_readBits_9 rfl ?_
    exact ow_iret Z dX5_readBits_10 (Or.inr rfl) hh
def tr_X5_readBits : aw_T := fun as h Q => ∃ (p0 : Nat) (p1 : Nat), as = [.ref p0, .ref p1] ∧ (sm_X5_readBits_0  Q p0 p1 h)
theorem tq_X5_readBits {p0 : Nat} {p1 : Nat} {h : aw_H} {Q : aw_R} : tr_X5_readBits [.ref p0, .ref p1] h Q ↔ (sm_X5_readBits_0  Q p0 p1 h) := by
  constructor
  · rintro ⟨_, _, as0, hh⟩
    cases as0
    exact hh
  · intro hh
    exact ⟨_, _, rfl, hh⟩
theorem ct_X5_readBits (E : aw_F) : CT E yX5_readBits cX5_readBits 5 (some .boolean) 2 tr_X5_readBits := by
  refine ct_of (by decide) ?_
  intro X Q as h hE C Z hG
  subst hE
  obtain ⟨p0, p1, rfl, hh⟩ := hG
  refine ⟨[.ref p0, .ref p1, Value.null, Value.null, Value.null], rfl, Nat.le_of_ble_eq_true rfl, ?_⟩
  exact bl_X5_readBits_0 C Z p0 p1 h hh
theorem cv_X5_readBits (E : aw_F) : CV E yX5_readBits cX5_readBits 5 (some .boolean) 2 1 4 tr_X5_readBits := ⟨ct_X5_readBits E, by decide, kw_172, kw_173, kw_149, kw_171, by decide +kernel, _, _, rfl⟩
theorem dX5_isAtEnd_0 : decode cX5_isAtEnd 0 = .ok (.aload_n 0, 1) := by decide +kernel
theorem dX5_isAtEnd_1 : decode cX5_isAtEnd 1 = .ok (.invokevirtual 36, 3) := by decide +kernel
theorem dX5_isAtEnd_4 : decode cX5_isAtEnd 4 = .ok (.aload_n 0, 1) := by decide +kernel
theorem dX5_isAtEnd_5 : decode cX5_isAtEnd 5 = .ok (.getfield 19, 3) := by decide +kernel
theorem dX5_isAtEnd_8 : decode cX5_isAtEnd 8 = .ok (.aload_n 0, 1) := by decide +kernel
theorem dX5_isAtEnd_9 : decode cX5_isAtEnd 9 = .ok (.getfield 15, 3) := by decide +kernel
theorem dX5_isAtEnd_12 : decode cX5_isAtEnd 12 = .ok (.if_icmp .lt 7, 3) := by decide +kernel
theorem dX5_isAtEnd_15 : decode cX5_isAtEnd 15 = .ok (.iconst 1, 1) := by decide +kernel
theorem dX5_isAtEnd_16 : decode cX5_isAtEnd 16 = .ok (.goto 4, 3) := by decide +kernel
theorem dX5_isAtEnd_19 : decode cX5_isAtEnd 19 = .ok (.iconst 0, 1) := by decide +kernel
theorem dX5_isAtEnd_20 : decode cX5_isAtEnd 20 = .ok (.ireturn, 1) := by decide +kernel
def sm_X5_isAtEnd_0  (Q : aw_R) (p0 : Nat) (h : aw_H) : Prop :=
  sv_O h p0 4 (tr_X5_skipBlanks [.ref p0] h fun r2 h1 => sr_V r2 <| sg_I h1 p0 4 2 fun v3 => sg_I h1 p0 4 1 fun v4 => if v3 < v4 then (Q (some (.int 0)) h1) else (Q (some (.int 1)) h1))
set_option maxRecDepth 100000 in
set_option maxHeartbeats 4000000 in
theorem bl_X5_isAtEnd_0 {X : aw_X} {Q : aw_R} (C : aw_C X cX5_isAtEnd RX5 1 1) (Z : aw_Z X cX5_isAtEnd (some .boolean) Q) (p0 : Nat) (h : aw_H) (hh : sm_X5_isAtEnd_0  Q p0 h) : Sat X 0 [.ref p0] [] h := by
  unfold sm_X5_isAtEnd_0 at hh
  refine ow_aload_n C dX5_isAtEnd_0 rfl rfl ?_
  refine ow_callV C (cv_X5_skipBlanks _) (Nat.le_of_ble_eq_true rfl) kw_159 dX5_isAtEnd_1 (as := []) (st := []) rfl rfl (Nat.le_of_ble_eq_true rfl) hh (fun r2 h1 hq => ?_)
  obtain ⟨rfl, hh⟩ := sr_V_e hq
  show Sat X 4 [.ref p0] [] h1
  refine ow_aload_n C dX5_isAtEnd_4 rfl rfl ?_
  refine ow_getI (ci := 4) (k := 2) (T := TX5) C rfl igX5 (by decide) kw_152 dX5_isAtEnd_5 hh (fun v3 hh => ?_)
  refine ow_aload_n C dX5_isAtEnd_8 rfl rfl ?_
  refine ow_getI (ci := 4) (k := 1) (T := TX5) C rfl igX5 (by decide) kw_146 dX5_isAtEnd_9 hh (fun v4 hh => ?_)
  refine ow_icmp_lt (tgt := 19) C dX5_isAtEnd_12 (by decide) hh (fun hh => ?_) (fun hh => ?_)
  · skip
    refine ow_iconst (v := 0) C dX5_isAtEnd_19 rfl ?_
    exact ow_iret Z dX5_isAtEnd_20 (Or.inl rfl) hh
  · skip
    refine ow_iconst (v := 1) C dX5_isAtEnd_15 rfl ?_
    refine ow_goto (tgt := 20) C dX5_isAtEnd_16 (by decide) ?_
    exact ow_iret Z dX5_isAtEnd_20 (Or.inr rfl) hh
def tr_X5_isAtEnd : aw_T := fun as h Q => ∃ (p0 : Nat), as = [.ref p0] ∧ (sm_X5_isAtEnd_0  Q p0 h)
theorem tq_X5_isAtEnd {p0 : Nat} {h : aw_H} {Q : aw_R} : tr_X5_isAtEnd [.ref p0] h Q ↔ (sm_X5_isAtEnd_0  Q p0 h) := by
  constructor
  · rintro ⟨_, as0, hh⟩
    cases as0
    exact hh
  · intro hh
    exact ⟨_, rfl, hh⟩
theorem ct_X5_isAtEnd (E : aw_F) : CT E yX5_isAtEnd cX5_isAtEnd 1 (some .boolean) 1 tr_X5_isAtEnd := by
  refine ct_of (by decide) ?_
  intro X Q as h hE C Z hG
  subst hE
  obtain ⟨p0, rfl, hh⟩ := hG
  refine ⟨[.ref p0], rfl, Nat.le_of_ble_eq_true rfl, ?_⟩
  exact bl_X5_isAtEnd_0 C Z p0 h hh
theorem cv_X5_isAtEnd (E : aw_F) : CV E yX5_isAtEnd cX5_isAtEnd 1 (some .boolean) 1 0 4 tr_X5_isAtEnd := ⟨ct_X5_isAtEnd E, by decide, kw_175, kw_176, kw_149, kw_174, by decide +kernel, _, _, rfl⟩
theorem dX5_readGate_0 : decode cX5_readGate 0 = .ok (.aload_n 0, 1) := by decide +kernel
theorem dX5_readGate_1 : decode cX5_readGate 1 = .ok (.invokevirtual 36, 3) := by decide +kernel
theorem dX5_readGate_4 : decode cX5_readGate 4 = .ok (.aload_n 0, 1) := by decide +kernel
theorem dX5_readGate_5 : decode cX5_readGate 5 = .ok (.getfield 19, 3) := by decide +kernel
theorem dX5_readGate_8 : decode cX5_readGate 8 = .ok (.aload_n 0, 1) := by decide +kernel
theorem dX5_readGate_9 : decode cX5_readGate 9 = .ok (.getfield 15, 3) := by decide +kernel
theorem dX5_readGate_12 : decode cX5_readGate 12 = .ok (.if_icmp .ge 18, 3) := by decide +kernel
theorem dX5_readGate_15 : decode cX5_readGate 15 = .ok (.aload_n 0, 1) := by decide +kernel
theorem dX5_readGate_16 : decode cX5_readGate 16 = .ok (.getfield 9, 3) := by decide +kernel
theorem dX5_readGate_19 : decode cX5_readGate 19 = .ok (.aload_n 0, 1) := by decide +kernel
theorem dX5_readGate_20 : decode cX5_readGate 20 = .ok (.getfield 19, 3) := by decide +kernel
theorem dX5_readGate_23 : decode cX5_readGate 23 = .ok (.caload, 1) := by decide +kernel
theorem dX5_readGate_24 : decode cX5_readGate 24 = .ok (.invokestatic 65, 3) := by decide +kernel
theorem dX5_readGate_27 : decode cX5_readGate 27 = .ok (.goto 4, 3) := by decide +kernel
theorem dX5_readGate_30 : decode cX5_readGate 30 = .ok (.iconst (-1), 1) := by decide +kernel
theorem dX5_readGate_31 : decode cX5_readGate 31 = .ok (.istore_n 2, 1) := by decide +kernel
theorem dX5_readGate_32 : decode cX5_readGate 32 = .ok (.iload_n 2, 1) := by decide +kernel
theorem dX5_readGate_33 : decode cX5_readGate 33 = .ok (.ifCond .ge 5, 3) := by decide +kernel
theorem dX5_readGate_36 : decode cX5_readGate 36 = .ok (.iconst 0, 1) := by decide +kernel
theorem dX5_readGate_37 : decode cX5_readGate 37 = .ok (.ireturn, 1) := by decide +kernel
theorem dX5_readGate_38 : decode cX5_readGate 38 = .ok (.aload_n 0, 1) := by decide +kernel
theorem dX5_readGate_39 : decode cX5_readGate 39 = .ok (.dup, 1) := by decide +kernel
theorem dX5_readGate_40 : decode cX5_readGate 40 = .ok (.getfield 19, 3) := by decide +kernel
theorem dX5_readGate_43 : decode cX5_readGate 43 = .ok (.iconst 1, 1) := by decide +kernel
theorem dX5_readGate_44 : decode cX5_readGate 44 = .ok (.iadd, 1) := by decide +kernel
theorem dX5_readGate_45 : decode cX5_readGate 45 = .ok (.putfield 19, 3) := by decide +kernel
theorem dX5_readGate_48 : decode cX5_readGate 48 = .ok (.iload_n 2, 1) := by decide +kernel
theorem dX5_readGate_49 : decode cX5_readGate 49 = .ok (.invokestatic 71, 3) := by decide +kernel
theorem dX5_readGate_52 : decode cX5_readGate 52 = .ok (.istore_n 3, 1) := by decide +kernel
theorem dX5_readGate_53 : decode cX5_readGate 53 = .ok (.iconst 0, 1) := by decide +kernel
theorem dX5_readGate_54 : decode cX5_readGate 54 = .ok (.istore 4, 2) := by decide +kernel
theorem dX5_readGate_56 : decode cX5_readGate 56 = .ok (.iload_n 2, 1) := by decide +kernel
theorem dX5_readGate_57 : decode cX5_readGate 57 = .ok (.istore 5, 2) := by decide +kernel
theorem dX5_readGate_59 : decode cX5_readGate 59 = .ok (.iconst 0, 1) := by decide +kernel
theorem dX5_readGate_60 : decode cX5_readGate 60 = .ok (.istore 6, 2) := by decide +kernel
theorem dX5_readGate_62 : decode cX5_readGate 62 = .ok (.iload 6, 2) := by decide +kernel
theorem dX5_readGate_64 : decode cX5_readGate 64 = .ok (.iload_n 3, 1) := by decide +kernel
theorem dX5_readGate_65 : decode cX5_readGate 65 = .ok (.if_icmp .ge 108, 3) := by decide +kernel
theorem dX5_readGate_68 : decode cX5_readGate 68 = .ok (.aload_n 0, 1) := by decide +kernel
theorem dX5_readGate_69 : decode cX5_readGate 69 = .ok (.invokevirtual 36, 3) := by decide +kernel
theorem dX5_readGate_72 : decode cX5_readGate 72 = .ok (.aload_n 0, 1) := by decide +kernel
theorem dX5_readGate_73 : decode cX5_readGate 73 = .ok (.invokevirtual 39, 3) := by decide +kernel
theorem dX5_readGate_76 : decode cX5_readGate 76 = .ok (.istore 7, 2) := by decide +kernel
theorem dX5_readGate_78 : decode cX5_readGate 78 = .ok (.iload 7, 2) := by decide +kernel
theorem dX5_readGate_80 : decode cX5_readGate 80 = .ok (.ifCond .lt 22, 3) := by decide +kernel
theorem dX5_readGate_83 : decode cX5_readGate 83 = .ok (.iload 7, 2) := by decide +kernel
theorem dX5_readGate_85 : decode cX5_readGate 85 = .ok (.aload_n 1, 1) := by decide +kernel
theorem dX5_readGate_86 : decode cX5_readGate 86 = .ok (.getfield 74, 3) := by decide +kernel
theorem dX5_readGate_89 : decode cX5_readGate 89 = .ok (.if_icmp .ge 13, 3) := by decide +kernel
theorem dX5_readGate_92 : decode cX5_readGate 92 = .ok (.iload 4, 2) := by decide +kernel
theorem dX5_readGate_94 : decode cX5_readGate 94 = .ok (.iload 7, 2) := by decide +kernel
theorem dX5_readGate_96 : decode cX5_readGate 96 = .ok (.ishr, 1) := by decide +kernel
theorem dX5_readGate_97 : decode cX5_readGate 97 = .ok (.iconst 1, 1) := by decide +kernel
theorem dX5_readGate_98 : decode cX5_readGate 98 = .ok (.iand, 1) := by decide +kernel
theorem dX5_readGate_99 : decode cX5_readGate 99 = .ok (.ifCond .eq 5, 3) := by decide +kernel
theorem dX5_readGate_102 : decode cX5_readGate 102 = .ok (.iconst 0, 1) := by decide +kernel
theorem dX5_readGate_103 : decode cX5_readGate 103 = .ok (.ireturn, 1) := by decide +kernel
theorem dX5_readGate_104 : decode cX5_readGate 104 = .ok (.aload_n 0, 1) := by decide +kernel
theorem dX5_readGate_105 : decode cX5_readGate 105 = .ok (.dup, 1) := by decide +kernel
theorem dX5_readGate_106 : decode cX5_readGate 106 = .ok (.getfield 19, 3) := by decide +kernel
theorem dX5_readGate_109 : decode cX5_readGate 109 = .ok (.iconst 1, 1) := by decide +kernel
theorem dX5_readGate_110 : decode cX5_readGate 110 = .ok (.iadd, 1) := by decide +kernel
theorem dX5_readGate_111 : decode cX5_readGate 111 = .ok (.putfield 19, 3) := by decide +kernel
theorem dX5_readGate_114 : decode cX5_readGate 114 = .ok (.iload 4, 2) := by decide +kernel
theorem dX5_readGate_116 : decode cX5_readGate 116 = .ok (.iconst 1, 1) := by decide +kernel
theorem dX5_readGate_117 : decode cX5_readGate 117 = .ok (.iload 7, 2) := by decide +kernel
theorem dX5_readGate_119 : decode cX5_readGate 119 = .ok (.ishl, 1) := by decide +kernel
theorem dX5_readGate_120 : decode cX5_readGate 120 = .ok (.ior, 1) := by decide +kernel
theorem dX5_readGate_121 : decode cX5_readGate 121 = .ok (.istore 4, 2) := by decide +kernel
theorem dX5_readGate_123 : decode cX5_readGate 123 = .ok (.iload 5, 2) := by decide +kernel
theorem dX5_readGate_125 : decode cX5_readGate 125 = .ok (.iconst 0, 1) := by decide +kernel
theorem dX5_readGate_126 : decode cX5_readGate 126 = .ok (.iload 6, 2) := by decide +kernel
theorem dX5_readGate_128 : decode cX5_readGate 128 = .ok (.ifCond .ne 8, 3) := by decide +kernel
theorem dX5_readGate_131 : decode cX5_readGate 131 = .ok (.iload 7, 2) := by decide +kernel
theorem dX5_readGate_133 : decode cX5_readGate 133 = .ok (.goto 4, 3) := by decide +kernel
theorem dX5_readGate_136 : decode cX5_readGate 136 = .ok (.iconst 0, 1) := by decide +kernel
theorem dX5_readGate_137 : decode cX5_readGate 137 = .ok (.iload 6, 2) := by decide +kernel
theorem dX5_readGate_139 : decode cX5_readGate 139 = .ok (.iconst 1, 1) := by decide +kernel
theorem dX5_readGate_140 : decode cX5_readGate 140 = .ok (.if_icmp .ne 8, 3) := by decide +kernel
theorem dX5_readGate_143 : decode cX5_readGate 143 = .ok (.iload 7, 2) := by decide +kernel
theorem dX5_readGate_145 : decode cX5_readGate 145 = .ok (.goto 4, 3) := by decide +kernel
theorem dX5_readGate_148 : decode cX5_readGate 148 = .ok (.iconst 0, 1) := by decide +kernel
theorem dX5_readGate_149 : decode cX5_readGate 149 = .ok (.iload 6, 2) := by decide +kernel
theorem dX5_readGate_151 : decode cX5_readGate 151 = .ok (.iconst 2, 1) := by decide +kernel
theorem dX5_readGate_152 : decode cX5_readGate 152 = .ok (.if_icmp .ne 8, 3) := by decide +kernel
theorem dX5_readGate_155 : decode cX5_readGate 155 = .ok (.iload 7, 2) := by decide +kernel
theorem dX5_readGate_157 : decode cX5_readGate 157 = .ok (.goto 4, 3) := by decide +kernel
theorem dX5_readGate_160 : decode cX5_readGate 160 = .ok (.iconst 0, 1) := by decide +kernel
theorem dX5_readGate_161 : decode cX5_readGate 161 = .ok (.invokestatic 77, 3) := by decide +kernel
theorem dX5_readGate_164 : decode cX5_readGate 164 = .ok (.ior, 1) := by decide +kernel
theorem dX5_readGate_165 : decode cX5_readGate 165 = .ok (.istore 5, 2) := by decide +kernel
theorem dX5_readGate_167 : decode cX5_readGate 167 = .ok (.iinc 6 1, 3) := by decide +kernel
theorem dX5_readGate_170 : decode cX5_readGate 170 = .ok (.goto (-108), 3) := by decide +kernel
theorem dX5_readGate_173 : decode cX5_readGate 173 = .ok (.aload_n 1, 1) := by decide +kernel
theorem dX5_readGate_174 : decode cX5_readGate 174 = .ok (.aload_n 0, 1) := by decide +kernel
theorem dX5_readGate_175 : decode cX5_readGate 175 = .ok (.bipush 33, 2) := by decide +kernel
theorem dX5_readGate_177 : decode cX5_readGate 177 = .ok (.invokevirtual 29, 3) := by decide +kernel
theorem dX5_readGate_180 : decode cX5_readGate 180 = .ok (.ifCond .eq 11, 3) := by decide +kernel
theorem dX5_readGate_183 : decode cX5_readGate 183 = .ok (.iload 5, 2) := by decide +kernel
theorem dX5_readGate_185 : decode cX5_readGate 185 = .ok (.invokestatic 81, 3) := by decide +kernel
theorem dX5_readGate_188 : decode cX5_readGate 188 = .ok (.goto 5, 3) := by decide +kernel
theorem dX5_readGate_191 : decode cX5_readGate 191 = .ok (.iload 5, 2) := by decide +kernel
theorem dX5_readGate_193 : decode cX5_readGate 193 = .ok (.invokevirtual 84, 3) := by decide +kernel
theorem dX5_readGate_196 : decode cX5_readGate 196 = .ok (.iconst 1, 1) := by decide +kernel
theorem dX5_readGate_197 : decode cX5_readGate 197 = .ok (.ireturn, 1) := by decide +kernel
def sm_X5_readGate_149 (K62 : Nat → Nat → Int32 → Int32 → Int32 → Int32 → aw_H → Prop) (Q : aw_R) (p0 : Nat) (p1 : Nat) (x3 : Int32) (x4 : Int32) (x6 : Int32) (x7 : Int32) (xs0 : Int32) (xs1 : Int32) (xs2 : Int32) (xs3 : Int32) (h : aw_H) : Prop :=
  if ¬ x6 = 2 then (tr_X2_pack [.int xs1, .int xs2, .int xs3, .int 0] h fun r2 h1 => sr_I r2 fun v3 => K62 p0 p1 x3 x4 (xs0 ||| v3) (x6 + 1) h1) else (tr_X2_pack [.int xs1, .int xs2, .int xs3, .int x7] h fun r5 h4 => sr_I r5 fun v6 => K62 p0 p1 x3 x4 (xs0 ||| v6) (x6 + 1) h4)
set_option maxRecDepth 100000 in
set_option maxHeartbeats 4000000 in
theorem bl_X5_readGate_149 {X : aw_X} {Q : aw_R} (C : aw_C X cX5_readGate RX5 8 2) (Z : aw_Z X cX5_readGate (some .boolean) Q) (p0 : Nat) (p1 : Nat) (x3 : Int32) (x4 : Int32) (x6 : Int32) (x7 : Int32) (xs0 : Int32) (xs1 : Int32) (xs2 : Int32) (xs3 : Int32) (h : aw_H) (hh : sm_X5_readGate_149 (fun (p0 : Nat) (p1 : Nat) (x3 : Int32) (x4 : Int32) (x5 : Int32) (x6 : Int32) (h : aw_H) => Sat X 62 [.ref p0, .ref p1, Value.null, .int x3, .int x4, .int x5, .int x6, Value.null] [] h) Q p0 p1 x3 x4 x6 x7 xs0 xs1 xs2 xs3 h) : Sat X 149 [.ref p0, .ref p1, Value.null, .int x3, .int x4, Value.null, .int x6, .int x7] [.int xs3, .int xs2, .int xs1, .int xs0] h := by
  unfold sm_X5_readGate_149 at hh
  refine ow_iload C dX5_readGate_149 rfl ?_
  refine ow_iconst (v := 2) C dX5_readGate_151 rfl ?_
  refine ow_icmp_ne (tgt := 160) C dX5_readGate_152 (by decide) hh (fun hh => ?_) (fun hh => ?_)
  · skip
    refine ow_iconst (v := 0) C dX5_readGate_160 rfl ?_
    refine ow_callS C (cs_X2_pack _) (Nat.le_of_ble_eq_true rfl) kw_177 dX5_readGate_161 (as := [.int xs1, .int xs2, .int xs3, .int 0]) (st := [.int xs0]) rfl rfl (Nat.le_of_ble_eq_true rfl) hh (fun r2 h1 hq => ?_)
    obtain ⟨v3, rfl, hh⟩ := sr_I_e hq
    show Sat X 164 [.ref p0, .ref p1, Value.null, .int x3, .int x4, Value.null, .int x6, .int x7] [.int v3, .int xs0] h1
    refine ow_ior C dX5_readGate_164 ?_
    refine ow_istore (L' := [.ref p0, .ref p1, Value.null, .int x3, .int x4, .int (xs0 ||| v3), .int x6, .int x7]) C dX5_readGate_165 (by decide) rfl ?_
    refine ow_iinc (v := x6 + 1) (L' := [.ref p0, .ref p1, Value.null, .int x3, .int x4, .int (xs0 ||| v3), .int (x6 + 1), .int x7]) C dX5_readGate_167 rfl rfl (by decide) rfl ?_
    refine ow_goto (tgt := 62) C dX5_readGate_170 (by decide) ?_
    exact Sat.mask hh (mk_y (mk_y (mk_n (mk_y (mk_y (mk_y (mk_y (mk_n mk_0))))))))
  · skip
    refine ow_iload C dX5_readGate_155 rfl ?_
    refine ow_goto (tgt := 161) C dX5_readGate_157 (by decide) ?_
    refine ow_callS C (cs_X2_pack _) (Nat.le_of_ble_eq_true rfl) kw_177 dX5_readGate_161 (as := [.int xs1, .int xs2, .int xs3, .int x7]) (st := [.int xs0]) rfl rfl (Nat.le_of_ble_eq_true rfl) hh (fun r5 h4 hq => ?_)
    obtain ⟨v6, rfl, hh⟩ := sr_I_e hq
    show Sat X 164 [.ref p0, .ref p1, Value.null, .int x3, .int x4, Value.null, .int x6, .int x7] [.int v6, .int xs0] h4
    refine ow_ior C dX5_readGate_164 ?_
    refine ow_istore (L' := [.ref p0, .ref p1, Value.null, .int x3, .int x4, .int (xs0 ||| v6), .int x6, .int x7]) C dX5_readGate_165 (by decide) rfl ?_
    refine ow_iinc (v := x6 + 1) (L' := [.ref p0, .ref p1, Value.null, .int x3, .int x4, .int (xs0 ||| v6), .int (x6 + 1), .int x7]) C dX5_readGate_167 rfl rfl (by decide) rfl ?_
    refine ow_goto (tgt := 62) C dX5_readGate_170 (by decide) ?_
    exact Sat.mask hh (mk_y (mk_y (mk_n (mk_y (mk_y (mk_y (mk_y (mk_n mk_0))))))))
def sm_X5_readGate_62 (K62 : Nat → Nat → Int32 → Int32 → Int32 → Int32 → aw_H → Prop) (Q : aw_R) (p0 : Nat) (p1 : Nat) (x3 : Int32) (x4 : Int32) (x5 : Int32) (x6 : Int32) (h : aw_H) : Prop :=
  if x3 ≤ x6 then (sv_O h p0 4 (tr_X5_takes [.ref p0, .int 33] h fun r2 h1 => sr_I r2 fun v3 => if v3 = 0 then (sv_O h1 p1 0 (tr_X0_add [.ref p1, .int x5] h1 fun r5 h4 => sr_V r5 <| Q (some (.int 1)) h4)) else (tr_X2_killed [.int x5] h1 fun r7 h6 => sr_I r7 fun v8 => sv_O h6 p1 0 (tr_X0_add [.ref p1, .int v8] h6 fun r10 h9 => sr_V r10 <| Q (some (.int 1)) h9)))) else (sv_O h p0 4 (tr_X5_skipBlanks [.ref p0] h fun r12 h11 => sr_V r12 <| sv_O h11 p0 4 (tr_X5_digitHere [.ref p0] h11 fun r14 h13 => sr_I r14 fun v15 => if v15 < 0 then (Q (some (.int 0)) h13) else (sg_I h13 p1 0 0 fun v16 => if v16 ≤ v15 then (Q (some (.int 0)) h13) else (if ((x4 >>> (v15 &&& 31)) &&& 1) = 0 then (sg_I h13 p0 4 2 fun v17 => sp_I h13 p0 4 2 (v17 + 1) fun h18 => if ¬ x6 = 0 then (if ¬ x6 = 1 then (sm_X5_readGate_149 K62 Q p0 p1 x3 (x4 ||| ((1 : Int32) <<< (v15 &&& 31))) x6 v15 x5 0 0 0 h18) else (sm_X5_readGate_149 K62 Q p0 p1 x3 (x4 ||| ((1 : Int32) <<< (v15 &&& 31))) x6 v15 x5 0 0 v15 h18)) else (if ¬ x6 = 1 then (sm_X5_readGate_149 K62 Q p0 p1 x3 (x4 ||| ((1 : Int32) <<< (v15 &&& 31))) x6 v15 x5 0 v15 0 h18) else (sm_X5_readGate_149 K62 Q p0 p1 x3 (x4 ||| ((1 : Int32) <<< (v15 &&& 31))) x6 v15 x5 0 v15 v15 h18))) else (Q (some (.int 0)) h13))))))
set_option maxRecDepth 100000 in
set_option maxHeartbeats 4000000 in
theorem bl_X5_readGate_62 {X : aw_X} {Q : aw_R} (C : aw_C X cX5_readGate RX5 8 2) (Z : aw_Z X cX5_readGate (some .boolean) Q) (p0 : Nat) (p1 : Nat) (x3 : Int32) (x4 : Int32) (x5 : Int32) (x6 : Int32) (h : aw_H) (hh : sm_X5_readGate_62 (fun (p0 : Nat) (p1 : Nat) (x3 : Int32) (x4 : Int32) (x5 : Int32) (x6 : Int32) (h : aw_H) => Sat X 62 [.ref p0, .ref p1, Value.null, .int x3, .int x4, .int x5, .int x6, Value.null] [] h) Q p0 p1 x3 x4 x5 x6 h) : Sat X 62 [.ref p0, .ref p1, Value.null, .int x3, .int x4, .int x5, .int x6, Value.null] [] h := by
  unfold sm_X5_readGate_62 at hh
  refine ow_iload C dX5_readGate_62 rfl ?_
  refine ow_iload_n C dX5_readGate_64 rfl rfl ?_
  refine ow_icmp_ge (tgt := 173) C dX5_readGate_65 (by decide) hh (fun hh => ?_) (fun hh => ?_)
  · skip
    refine ow_aload_n C dX5_readGate_173 rfl rfl ?_
    refine ow_aload_n C dX5_readGate_174 rfl rfl ?_
    refine ow_bipush (v := 33) C dX5_readGate_175 rfl ?_
    refine ow_callV C (cv_X5_takes _) (Nat.le_of_ble_eq_true rfl) kw_168 dX5_readGate_177 (as := [.int 33]) (st := [.ref p1]) rfl rfl (Nat.le_of_ble_eq_true rfl) hh (fun r2 h1 hq => ?_)
    obtain ⟨v3, rfl, hh⟩ := sr_I_e hq
    show Sat X 180 [.ref p0, .ref p1, Value.null, .int x3, .int x4, .int x5, .int x6, Value.null] [.int v3, .ref p1] h1
    refine ow_if_eq (tgt := 191) C dX5_readGate_180 (by decide) hh (fun hh => ?_) (fun hh => ?_)
    · skip
      refine ow_iload C dX5_readGate_191 rfl ?_
      refine ow_callV C (cv_X0_add _) (Nat.le_of_ble_eq_true rfl) kw_178 dX5_readGate_193 (as := [.int x5]) (st := []) rfl rfl (Nat.le_of_ble_eq_true rfl) hh (fun r5 h4 hq => ?_)
      obtain ⟨rfl, hh⟩ := sr_V_e hq
      show Sat X 196 [.ref p0, .ref p1, Value.null, .int x3, .int x4, .int x5, .int x6, Value.null] [] h4
      refine ow_iconst (v := 1) C dX5_readGate_196 rfl ?_
      exact ow_iret Z dX5_readGate_197 (Or.inr rfl) hh
    · skip
      refine ow_iload C dX5_readGate_183 rfl ?_
      refine ow_callS C (cs_X2_killed _) (Nat.le_of_ble_eq_true rfl) kw_179 dX5_readGate_185 (as := [.int x5]) (st := [.ref p1]) rfl rfl (Nat.le_of_ble_eq_true rfl) hh (fun r7 h6 hq => ?_)
      obtain ⟨v8, rfl, hh⟩ := sr_I_e hq
      show Sat X 188 [.ref p0, .ref p1, Value.null, .int x3, .int x4, .int x5, .int x6, Value.null] [.int v8, .ref p1] h6
      refine ow_goto (tgt := 193) C dX5_readGate_188 (by decide) ?_
      refine ow_callV C (cv_X0_add _) (Nat.le_of_ble_eq_true rfl) kw_178 dX5_readGate_193 (as := [.int v8]) (st := []) rfl rfl (Nat.le_of_ble_eq_true rfl) hh (fun r10 h9 hq => ?_)
      obtain ⟨rfl, hh⟩ := sr_V_e hq
      show Sat X 196 [.ref p0, .ref p1, Value.null, .int x3, .int x4, .int x5, .int x6, Value.null] [] h9
      refine ow_iconst (v := 1) C dX5_readGate_196 rfl ?_
      exact ow_iret Z dX5_readGate_197 (Or.inr rfl) hh
  · skip
    refine ow_aload_n C dX5_readGate_68 rfl rfl ?_
    refine ow_callV C (cv_X5_skipBlanks _) (Nat.le_of_ble_eq_true rfl) kw_159 dX5_readGate_69 (as := []) (st := []) rfl rfl (Nat.le_of_ble_eq_true rfl) hh (fun r12 h11 hq => ?_)
    obtain ⟨rfl, hh⟩ := sr_V_e hq
    show Sat X 72 [.ref p0, .ref p1, Value.null, .int x3, .int x4, .int x5, .int x6, Value.null] [] h11
    refine ow_aload_n C dX5_readGate_72 rfl rfl ?_
    refine ow_callV C (cv_X5_digitHere _) (Nat.le_of_ble_eq_true rfl) kw_160 dX5_readGate_73 (as := []) (st := []) rfl rfl (Nat.le_of_ble_eq_true rfl) hh (fun r14 h13 hq => ?_)
    obtain ⟨v15, rfl, hh⟩ := sr_I_e hq
    show Sat X 76 [.ref p0, .ref p1, Value.null, .int x3, .int x4, .int x5, .int x6, Value.null] [.int v15] h13
    refine ow_istore (L' := [.ref p0, .ref p1, Value.null, .int x3, .int x4, .int x5, .int x6, .int v15]) C dX5_readGate_76 (by decide) rfl ?_
    refine ow_iload C dX5_readGate_78 rfl ?_
    refine ow_if_lt (tgt := 102) C dX5_readGate_80 (by decide) hh (fun hh => ?_) (fun hh => ?_)
    · skip
      refine ow_iconst (v := 0) C dX5_readGate_102 rfl ?_
      exact ow_iret Z dX5_readGate_103 (Or.inl rfl) hh
    · skip
      refine ow_iload C dX5_readGate_83 rfl ?_
      refine ow_aload_n C dX5_readGate_85 rfl rfl ?_
      refine ow_getI (ci := 0) (k := 0) (T := TX0) C rfl igX0 (by decide) kw_180 dX5_readGate_86 hh (fun v16 hh => ?_)
      refine ow_icmp_ge (tgt := 102) C dX5_readGate_89 (by decide) hh (fun hh => ?_) (fun hh => ?_)
      · skip
        refine ow_iconst (v := 0) C dX5_readGate_102 rfl ?_
        exact ow_iret Z dX5_readGate_103 (Or.inl rfl) hh
      · skip
        refine ow_iload C dX5_readGate_92 rfl ?_
        refine ow_iload C dX5_readGate_94 rfl ?_
        refine ow_ishr C dX5_readGate_96 ?_
        refine ow_iconst (v := 1) C dX5_readGate_97 rfl ?_
        refine ow_iand C dX5_readGate_98 ?_
        refine ow_if_eq (tgt := 104) C dX5_readGate_99 (by decide) hh (fun hh => ?_) (fun hh => ?_)
        · skip
          refine ow_aload_n C dX5_readGate_104 rfl rfl ?_
          refine ow_dup C dX5_readGate_105 rfl ?_
          refine ow_getI (ci := 4) (k := 2) (T := TX5) C rfl igX5 (by decide) kw_152 dX5_readGate_106 hh (fun v17 hh => ?_)
          refine ow_iconst (v := 1) C dX5_readGate_109 rfl ?_
          refine ow_iadd C dX5_readGate_110 ?_
          refine ow_putI (ci := 4) (k := 2) (T := TX5) C rfl igX5 tyX5 tyX5_ok nmX5 (by decide) kw_152 rfl (by decide +kernel) dX5_readGate_111 hh (fun h18 hh => ?_)
          refine ow_iload C dX5_readGate_114 rfl ?_
          refine ow_iconst (v := 1) C dX5_readGate_116 rfl ?_
          refine ow_iload C dX5_readGate_117 rfl ?_
          refine ow_ishl C dX5_readGate_119 ?_
          refine ow_ior C dX5_readGate_120 ?_
          refine ow_istore (L' := [.ref p0, .ref p1, Value.null, .int x3, .int (x4 ||| ((1 : Int32) <<< (v15 &&& 31))), .int x5, .int x6, .int v15]) C dX5_readGate_121 (by decide) rfl ?_
          refine ow_iload C dX5_readGate_123 rfl ?_
          refine ow_iconst (v := 0) C dX5_readGate_125 rfl ?_
          refine ow_iload C dX5_readGate_126 rfl ?_
          refine ow_if_ne (tgt := 136) C dX5_readGate_128 (by decide) hh (fun hh => ?_) (fun hh => ?_)
          · skip
            refine ow_iconst (v := 0) C dX5_readGate_136 rfl ?_
            refine ow_iload C dX5_readGate_137 rfl ?_
            refine ow_iconst (v := 1) C dX5_readGate_139 rfl ?_
            refine ow_icmp_ne (tgt := 148) C dX5_readGate_140 (by decide) hh (fun hh => ?_) (fun hh => ?_)
            · skip
              refine ow_iconst (v := 0) C dX5_readGate_148 rfl ?_
              exact Sat.mask (bl_X5_readGate_149 C Z p0 p1 x3 (x4 ||| ((1 : Int32) <<< (v15 &&& 31))) x6 v15 x5 0 0 0 h18 hh) (mk_y (mk_y (mk_n (mk_y (mk_y (mk_n (mk_y (mk_y mk_0))))))))
            · skip
              refine ow_iload C dX5_readGate_143 rfl ?_
              refine ow_goto (tgt := 149) C dX5_readGate_145 (by decide) ?_
              exact Sat.mask (bl_X5_readGate_149 C Z p0 p1 x3 (x4 ||| ((1 : Int32) <<< (v15 &&& 31))) x6 v15 x5 0 0 v15 h18 hh) (mk_y (mk_y (mk_n (mk_y (mk_y (mk_n (mk_y (mk_y mk_0))))))))
          · skip
            refine ow_iload C dX5_readGate_131 rfl ?_
            refine ow_goto (tgt := 137) C dX5_readGate_133 (by decide) ?_
            refine ow_iload C dX5_readGate_137 rfl ?_
            refine ow_iconst (v := 1) C dX5_readGate_139 rfl ?_
            refine ow_icmp_ne (tgt := 148) C dX5_readGate_140 (by decide) hh (fun hh => ?_) (fun hh => ?_)
            · skip
              refine ow_iconst (v := 0) C dX5_readGate_148 rfl ?_
              exact Sat.mask (bl_X5_readGate_149 C Z p0 p1 x3 (x4 ||| ((1 : Int32) <<< (v15 &&& 31))) x6 v15 x5 0 v15 0 h18 hh) (mk_y (mk_y (mk_n (mk_y (mk_y (mk_n (mk_y (mk_y mk_0))))))))
            · skip
              refine ow_iload C dX5_readGate_143 rfl ?_
              refine ow_goto (tgt := 149) C dX5_readGate_145 (by decide) ?_
              exact Sat.mask (bl_X5_readGate_149 C Z p0 p1 x3 (x4 ||| ((1 : Int32) <<< (v15 &&& 31))) x6 v15 x5 0 v15 v15 h18 hh) (mk_y (mk_y (mk_n (mk_y (mk_y (mk_n (mk_y (mk_y mk_0))))))))
        · skip
          refine ow_iconst (v := 0) C dX5_readGate_102 rfl ?_
          exact ow_iret Z dX5_readGate_103 (Or.inl rfl) hh
def sm_X5_readGate_31 (K62 : Nat → Nat → Int32 → Int32 → Int32 → Int32 → aw_H → Prop) (Q : aw_R) (p0 : Nat) (p1 : Nat) (xs0 : Int32) (h : aw_H) : Prop :=
  if 0 ≤ xs0 then (sg_I h p0 4 2 fun v1 => sp_I h p0 4 2 (v1 + 1) fun h2 => tr_X2_wiresOf [.int xs0] h2 fun r4 h3 => sr_I r4 fun v5 => K62 p0 p1 v5 0 xs0 0 h3) else (Q (some (.int 0)) h)
set_option maxRecDepth 100000 in
set_option maxHeartbeats 4000000 in
theorem bl_X5_readGate_31 {X : aw_X} {Q : aw_R} (C : aw_C X cX5_readGate RX5 8 2) (Z : aw_Z X cX5_readGate (some .boolean) Q) (p0 : Nat) (p1 : Nat) (xs0 : Int32) (h : aw_H) (hh : sm_X5_readGate_31 (fun (p0 : Nat) (p1 : Nat) (x3 : Int32) (x4 : Int32) (x5 : Int32) (x6 : Int32) (h : aw_H) => Sat X 62 [.ref p0, .ref p1, Value.null, .int x3, .int x4, .int x5, .int x6, Value.null] [] h) Q p0 p1 xs0 h) : Sat X 31 [.ref p0, .ref p1, Value.null, Value.null, Value.null, Value.null, Value.null, Value.null] [.int xs0] h := by
  unfold sm_X5_readGate_31 at hh
  refine ow_istore_n (L' := [.ref p0, .ref p1, .int xs0, Value.null, Value.null, Value.null, Value.null, Value.null]) C dX5_readGate_31 rfl (by decide) rfl ?_
  refine ow_iload_n C dX5_readGate_32 rfl rfl ?_
  refine ow_if_ge (tgt := 38) C dX5_readGate_33 (by decide) hh (fun hh => ?_) (fun hh => ?_)
  · skip
    refine ow_aload_n C dX5_readGate_38 rfl rfl ?_
    refine ow_dup C dX5_readGate_39 rfl ?_
    refine ow_getI (ci := 4) (k := 2) (T := TX5) C rfl igX5 (by decide) kw_152 dX5_readGate_40 hh (fun v1 hh => ?_)
    refine ow_iconst (v := 1) C dX5_readGate_43 rfl ?_
    refine ow_iadd C dX5_readGate_44 ?_
    refine ow_putI (ci := 4) (k := 2) (T := TX5) C rfl igX5 tyX5 tyX5_ok nmX5 (by decide) kw_152 rfl (by decide +kernel) dX5_readGate_45 hh (fun h2 hh => ?_)
    refine ow_iload_n C dX5_readGate_48 rfl rfl ?_
    refine ow_callS C (cs_X2_wiresOf _) (Nat.le_of_ble_eq_true rfl) kw_181 dX5_readGate_49 (as := [.int xs0]) (st := []) rfl rfl (Nat.le_of_ble_eq_true rfl) hh (fun r4 h3 hq => ?_)
    obtain ⟨v5, rfl, hh⟩ := sr_I_e hq
    show Sat X 52 [.ref p0, .ref p1, .int xs0, Value.null, Value.null, Value.null, Value.null, Value.null] [.int v5] h3
    refine ow_istore_n (L' := [.ref p0, .ref p1, .int xs0, .int v5, Value.null, Value.null, Value.null, Value.null]) C dX5_readGate_52 rfl (by decide) rfl ?_
    refine ow_iconst (v := 0) C dX5_readGate_53 rfl ?_
    refine ow_istore (L' := [.ref p0, .ref p1, .int xs0, .int v5, .int 0, Value.null, Value.null, Value.null]) C dX5_readGate_54 (by decide) rfl ?_
    refine ow_iload_n C dX5_readGate_56 rfl rfl ?_
    refine ow_istore (L' := [.ref p0, .ref p1, .int xs0, .int v5, .int 0, .int xs0, Value.null, Value.null]) C dX5_readGate_57 (by decide) rfl ?_
    refine ow_iconst (v := 0) C dX5_readGate_59 rfl ?_
    refine ow_istore (L' := [.ref p0, .ref p1, .int xs0, .int v5, .int 0, .int xs0, .int 0, Value.null]) C dX5_readGate_60 (by decide) rfl ?_
    exact Sat.mask hh (mk_y (mk_y (mk_n (mk_y (mk_y (mk_y (mk_y (mk_n mk_0))))))))
  · skip
    refine ow_iconst (v := 0) C dX5_readGate_36 rfl ?_
    exact ow_iret Z dX5_readGate_37 (Or.inl rfl) hh
def sm_X5_readGate_0 (K62 : Nat → Nat → Int32 → Int32 → Int32 → Int32 → aw_H → Prop) (Q : aw_R) (p0 : Nat) (p1 : Nat) (h : aw_H) : Prop :=
  sv_O h p0 4 (tr_X5_skipBlanks [.ref p0] h fun r2 h1 => sr_V r2 <| sg_I h1 p0 4 2 fun v3 => sg_I h1 p0 4 1 fun v4 => if v4 ≤ v3 then (sm_X5_readGate_31 K62 Q p0 p1 ((-1)) h1) else (sg_R h1 p0 4 0 fun q5 => sg_I h1 p0 4 2 fun v6 => sa_C h1 q5 v6 fun v7 => tr_X2_kindNamed [.int v7] h1 fun r9 h8 => sr_I r9 fun v10 => sm_X5_readGate_31 K62 Q p0 p1 v10 h8))
set_option maxRecDepth 100000 in
set_option maxHeartbeats 4000000 in
theorem bl_X5_readGate_0 {X : aw_X} {Q : aw_R} (C : aw_C X cX5_readGate RX5 8 2) (Z : aw_Z X cX5_readGate (some .boolean) Q) (p0 : Nat) (p1 : Nat) (h : aw_H) (hh : sm_X5_readGate_0 (fun (p0 : Nat) (p1 : Nat) (x3 : Int32) (x4 : Int32) (x5 : Int32) (x6 : Int32) (h : aw_H) => Sat X 62 [.ref p0, .ref p1, Value.null, .int x3, .int x4, .int x5, .int x6, Value.null] [] h) Q p0 p1 h) : Sat X 0 [.ref p0, .ref p1, Value.null, Value.null, Value.null, Value.null, Value.null, Value.null] [] h := by
  unfold sm_X5_readGate_0 at hh
  refine ow_aload_n C dX5_readGate_0 rfl rfl ?_
  refine ow_callV C (cv_X5_skipBlanks _) (Nat.le_of_ble_eq_true rfl) kw_159 dX5_readGate_1 (as := []) (st := []) rfl rfl (Nat.le_of_ble_eq_true rfl) hh (fun r2 h1 hq => ?_)
  obtain ⟨rfl, hh⟩ := sr_V_e hq
  show Sat X 4 [.ref p0, .ref p1, Value.null, Value.null, Value.null, Value.null, Value.null, Value.null] [] h1
  refine ow_aload_n C dX5_readGate_4 rfl rfl ?_
  refine ow_getI (ci := 4) (k := 2) (T := TX5) C rfl igX5 (by decide) kw_152 dX5_readGate_5 hh (fun v3 hh => ?_)
  refine ow_aload_n C dX5_readGate_8 rfl rfl ?_
  refine ow_getI (ci := 4) (k := 1) (T := TX5) C rfl igX5 (by decide) kw_146 dX5_readGate_9 hh (fun v4 hh => ?_)
  refine ow_icmp_ge (tgt := 30) C dX5_readGate_12 (by decide) hh (fun hh => ?_) (fun hh => ?_)
  · skip
    refine ow_iconst (v := (-1)) C dX5_readGate_30 rfl ?_
    exact Sat.mask (bl_X5_readGate_31 C Z p0 p1 ((-1)) h1 hh) (mk_y (mk_y (mk_n (mk_n (mk_n (mk_n (mk_n (mk_n mk_0))))))))
  · skip
    refine ow_aload_n C dX5_readGate_15 rfl rfl ?_
    refine ow_getR (ci := 4) (k := 0) (T := TX5) C rfl igX5 (by decide) kw_147 dX5_readGate_16 hh (fun q5 hh => ?_)
    refine ow_aload_n C dX5_readGate_19 rfl rfl ?_
    refine ow_getI (ci := 4) (k := 2) (T := TX5) C rfl igX5 (by decide) kw_152 dX5_readGate_20 hh (fun v6 hh => ?_)
    refine ow_caload C dX5_readGate_23 hh (fun v7 hh => ?_)
    refine ow_callS C (cs_X2_kindNamed _) (Nat.le_of_ble_eq_true rfl) kw_182 dX5_readGate_24 (as := [.int v7]) (st := []) rfl rfl (Nat.le_of_ble_eq_true rfl) hh (fun r9 h8 hq => ?_)
    obtain ⟨v10, rfl, hh⟩ := sr_I_e hq
    show Sat X 27 [.ref p0, .ref p1, Value.null, Value.null, Value.null, Value.null, Value.null, Value.null] [.int v10] h8
    refine ow_goto (tgt := 31) C dX5_readGate_27 (by decide) ?_
    exact Sat.mask (bl_X5_readGate_31 C Z p0 p1 v10 h8 hh) (mk_y (mk_y (mk_n (mk_n (mk_n (mk_n (mk_n (mk_n mk_0))))))))
def tr_X5_readGate : aw_T := fun as h Q => ∃ (p0 : Nat) (p1 : Nat), as = [.ref p0, .ref p1] ∧ (∀ (K62 : Nat → Nat → Int32 → Int32 → Int32 → Int32 → aw_H → Prop), (∀ (p0 : Nat) (p1 : Nat) (x3 : Int32) (x4 : Int32) (x5 : Int32) (x6 : Int32) (h : aw_H), sm_X5_readGate_62 K62 Q p0 p1 x3 x4 x5 x6 h → K62 p0 p1 x3 x4 x5 x6 h) → sm_X5_readGate_0 K62 Q p0 p1 h)
theorem tq_X5_readGate {p0 : Nat} {p1 : Nat} {h : aw_H} {Q : aw_R} : tr_X5_readGate [.ref p0, .ref p1] h Q ↔ (∀ (K62 : Nat → Nat → Int32 → Int32 → Int32 → Int32 → aw_H → Prop), (∀ (p0 : Nat) (p1 : Nat) (x3 : Int32) (x4 : Int32) (x5 : Int32) (x6 : Int32) (h : aw_H), sm_X5_readGate_62 K62 Q p0 p1 x3 x4 x5 x6 h → K62 p0 p1 x3 x4 x5 x6 h) → sm_X5_readGate_0 K62 Q p0 p1 h) := by
  constructor
  · rintro ⟨_, _, as0, hh⟩
    cases as0
    exact hh
  · intro hh
    exact ⟨_, _, rfl, hh⟩
theorem ct_X5_readGate (E : aw_F) : CT E yX5_readGate cX5_readGate 8 (some .boolean) 2 tr_X5_readGate := by
  refine ct_of (by decide) ?_
  intro X Q as h hE C Z hG
  subst hE
  obtain ⟨p0, p1, rfl, hh⟩ := hG
  refine ⟨[.ref p0, .ref p1, Value.null, Value.null, Value.null, Value.null, Value.null, Value.null], rfl, Nat.le_of_ble_eq_true rfl, ?_⟩
  exact bl_X5_readGate_0 C Z p0 p1 h (hh (fun (p0 : Nat) (p1 : Nat) (x3 : Int32) (x4 : Int32) (x5 : Int32) (x6 : Int32) (h : aw_H) => Sat X 62 [.ref p0, .ref p1, Value.null, .int x3, .int x4, .int x5, .int x6, Value.null] [] h) (fun p0 p1 x3 x4 x5 x6 h hh => bl_X5_readGate_62 C Z p0 p1 x3 x4 x5 x6 h hh))
theorem cv_X5_readGate (E : aw_F) : CV E yX5_readGate cX5_readGate 8 (some .boolean) 2 1 4 tr_X5_readGate := ⟨ct_X5_readGate E, by decide, kw_184, kw_185, kw_149, kw_183, by decide +kernel, _, _, rfl⟩
theorem dX5_readGates_0 : decode cX5_readGates 0 = .ok (.aload_n 0, 1) := by decide +kernel
theorem dX5_readGates_1 : decode cX5_readGates 1 = .ok (.invokevirtual 55, 3) := by decide +kernel
theorem dX5_readGates_4 : decode cX5_readGates 4 = .ok (.ifCond .eq 5, 3) := by decide +kernel
theorem dX5_readGates_7 : decode cX5_readGates 7 = .ok (.iconst 1, 1) := by decide +kernel
theorem dX5_readGates_8 : decode cX5_readGates 8 = .ok (.ireturn, 1) := by decide +kernel
theorem dX5_readGates_9 : decode cX5_readGates 9 = .ok (.iconst 0, 1) := by decide +kernel
theorem dX5_readGates_10 : decode cX5_readGates 10 = .ok (.istore_n 2, 1) := by decide +kernel
theorem dX5_readGates_11 : decode cX5_readGates 11 = .ok (.iload_n 2, 1) := by decide +kernel
theorem dX5_readGates_12 : decode cX5_readGates 12 = .ok (.bipush 16, 2) := by decide +kernel
theorem dX5_readGates_14 : decode cX5_readGates 14 = .ok (.if_icmp .ge 48, 3) := by decide +kernel
theorem dX5_readGates_17 : decode cX5_readGates 17 = .ok (.aload_n 0, 1) := by decide +kernel
theorem dX5_readGates_18 : decode cX5_readGates 18 = .ok (.aload_n 1, 1) := by decide +kernel
theorem dX5_readGates_19 : decode cX5_readGates 19 = .ok (.invokevirtual 59, 3) := by decide +kernel
theorem dX5_readGates_22 : decode cX5_readGates 22 = .ok (.ifCond .ne 5, 3) := by decide +kernel
theorem dX5_readGates_25 : decode cX5_readGates 25 = .ok (.iconst 0, 1) := by decide +kernel
theorem dX5_readGates_26 : decode cX5_readGates 26 = .ok (.ireturn, 1) := by decide +kernel
theorem dX5_readGates_27 : decode cX5_readGates 27 = .ok (.aload_n 0, 1) := by decide +kernel
theorem dX5_readGates_28 : decode cX5_readGates 28 = .ok (.invokevirtual 55, 3) := by decide +kernel
theorem dX5_readGates_31 : decode cX5_readGates 31 = .ok (.ifCond .eq 5, 3) := by decide +kernel
theorem dX5_readGates_34 : decode cX5_readGates 34 = .ok (.iconst 1, 1) := by decide +kernel
theorem dX5_readGates_35 : decode cX5_readGates 35 = .ok (.ireturn, 1) := by decide +kernel
theorem dX5_readGates_36 : decode cX5_readGates 36 = .ok (.aload_n 1, 1) := by decide +kernel
theorem dX5_readGates_37 : decode cX5_readGates 37 = .ok (.getfield 62, 3) := by decide +kernel
theorem dX5_readGates_40 : decode cX5_readGates 40 = .ok (.bipush 16, 2) := by decide +kernel
theorem dX5_readGates_42 : decode cX5_readGates 42 = .ok (.if_icmp .ge 12, 3) := by decide +kernel
theorem dX5_readGates_45 : decode cX5_readGates 45 = .ok (.aload_n 0, 1) := by decide +kernel
theorem dX5_readGates_46 : decode cX5_readGates 46 = .ok (.bipush 44, 2) := by decide +kernel
theorem dX5_readGates_48 : decode cX5_readGates 48 = .ok (.invokevirtual 29, 3) := by decide +kernel
theorem dX5_readGates_51 : decode cX5_readGates 51 = .ok (.ifCond .ne 5, 3) := by decide +kernel
theorem dX5_readGates_54 : decode cX5_readGates 54 = .ok (.iconst 0, 1) := by decide +kernel
theorem dX5_readGates_55 : decode cX5_readGates 55 = .ok (.ireturn, 1) := by decide +kernel
theorem dX5_readGates_56 : decode cX5_readGates 56 = .ok (.iinc 2 1, 3) := by decide +kernel
theorem dX5_readGates_59 : decode cX5_readGates 59 = .ok (.goto (-48), 3) := by decide +kernel
theorem dX5_readGates_62 : decode cX5_readGates 62 = .ok (.iconst 0, 1) := by decide +kernel
theorem dX5_readGates_63 : decode cX5_readGates 63 = .ok (.ireturn, 1) := by decide +kernel
def sm_X5_readGates_11 (K11 : Nat → Nat → Int32 → aw_H → Prop) (Q : aw_R) (p0 : Nat) (p1 : Nat) (x2 : Int32) (h : aw_H) : Prop :=
  if 16 ≤ x2 then (Q (some (.int 0)) h) else (sv_O h p0 4 (tr_X5_readGate [.ref p0, .ref p1] h fun r2 h1 => sr_I r2 fun v3 => if ¬ v3 = 0 then (sv_O h1 p0 4 (tr_X5_isAtEnd [.ref p0] h1 fun r5 h4 => sr_I r5 fun v6 => if v6 = 0 then (sg_I h4 p1 0 1 fun v7 => if 16 ≤ v7 then (Q (some (.int 0)) h4) else (sv_O h4 p0 4 (tr_X5_takes [.ref p0, .int 44] h4 fun r9 h8 => sr_I r9 fun v10 => if ¬ v10 = 0 then (K11 p0 p1 (x2 + 1) h8) else (Q (some (.int 0)) h8)))) else (Q (some (.int 1)) h4))) else (Q (some (.int 0)) h1)))
set_option maxRecDepth 100000 in
set_option maxHeartbeats 4000000 in
theorem bl_X5_readGates_11 {X : aw_X} {Q : aw_R} (C : aw_C X cX5_readGates RX5 3 3) (Z : aw_Z X cX5_readGates (some .boolean) Q) (p0 : Nat) (p1 : Nat) (x2 : Int32) (h : aw_H) (hh : sm_X5_readGates_11 (fun (p0 : Nat) (p1 : Nat) (x2 : Int32) (h : aw_H) => Sat X 11 [.ref p0, .ref p1, .int x2] [] h) Q p0 p1 x2 h) : Sat X 11 [.ref p0, .ref p1, .int x2] [] h := by
  unfold sm_X5_readGates_11 at hh
  refine ow_iload_n C dX5_readGates_11 rfl rfl ?_
  refine ow_bipush (v := 16) C dX5_readGates_12 rfl ?_
  refine ow_icmp_ge (tgt := 62) C dX5_readGates_14 (by decide) hh (fun hh => ?_) (fun hh => ?_)
  · skip
    refine ow_iconst (v := 0) C dX5_readGates_62 rfl ?_
    exact ow_iret Z dX5_readGates_63 (Or.inl rfl) hh
  · skip
    refine ow_aload_n C dX5_readGates_17 rfl rfl ?_
    refine ow_aload_n C dX5_readGates_18 rfl rfl ?_
    refine ow_callV C (cv_X5_readGate _) (Nat.le_of_ble_eq_true rfl) kw_186 dX5_readGates_19 (as := [.ref p1]) (st := []) rfl rfl (Nat.le_of_ble_eq_true rfl) hh (fun r2 h1 hq => ?_)
    obtain ⟨v3, rfl, hh⟩ := sr_I_e hq
    show Sat X 22 [.ref p0, .ref p1, .int x2] [.int v3] h1
    refine ow_if_ne (tgt := 27) C dX5_readGates_22 (by decide) hh (fun hh => ?_) (fun hh => ?_)
    · skip
      refine ow_aload_n C dX5_readGates_27 rfl rfl ?_
      refine ow_callV C (cv_X5_isAtEnd _) (Nat.le_of_ble_eq_true rfl) kw_187 dX5_readGates_28 (as := []) (st := []) rfl rfl (Nat.le_of_ble_eq_true rfl) hh (fun r5 h4 hq => ?_)
      obtain ⟨v6, rfl, hh⟩ := sr_I_e hq
      show Sat X 31 [.ref p0, .ref p1, .int x2] [.int v6] h4
      refine ow_if_eq (tgt := 36) C dX5_readGates_31 (by decide) hh (fun hh => ?_) (fun hh => ?_)
      · skip
        refine ow_aload_n C dX5_readGates_36 rfl rfl ?_
        refine ow_getI (ci := 0) (k := 1) (T := TX0) C rfl igX0 (by decide) kw_188 dX5_readGates_37 hh (fun v7 hh => ?_)
        refine ow_bipush (v := 16) C dX5_readGates_40 rfl ?_
        refine ow_icmp_ge (tgt := 54) C dX5_readGates_42 (by decide) hh (fun hh => ?_) (fun hh => ?_)
        · skip
          refine ow_iconst (v := 0) C dX5_readGates_54 rfl ?_
          exact ow_iret Z dX5_readGates_55 (Or.inl rfl) hh
        · skip
          refine ow_aload_n C dX5_readGates_45 rfl rfl ?_
          refine ow_bipush (v := 44) C dX5_readGates_46 rfl ?_
          refine ow_callV C (cv_X5_takes _) (Nat.le_of_ble_eq_true rfl) kw_168 dX5_readGates_48 (as := [.int 44]) (st := []) rfl rfl (Nat.le_of_ble_eq_true rfl) hh (fun r9 h8 hq => ?_)
          obtain ⟨v10, rfl, hh⟩ := sr_I_e hq
          show Sat X 51 [.ref p0, .ref p1, .int x2] [.int v10] h8
          refine ow_if_ne (tgt := 56) C dX5_readGates_51 (by decide) hh (fun hh => ?_) (fun hh => ?_)
          · skip
            refine ow_iinc (v := x2 + 1) (L' := [.ref p0, .ref p1, .int (x2 + 1)]) C dX5_readGates_56 rfl rfl (by decide) rfl ?_
            refine ow_goto (tgt := 11) C dX5_readGates_59 (by decide) ?_
            exact Sat.mask hh (mk_y (mk_y (mk_y mk_0)))
          · skip
            refine ow_iconst (v := 0) C dX5_readGates_54 rfl ?_
            exact ow_iret Z dX5_readGates_55 (Or.inl rfl) hh
      · skip
        refine ow_iconst (v := 1) C dX5_readGates_34 rfl ?_
        exact ow_iret Z dX5_readGates_35 (Or.inr rfl) hh
    · skip
      refine ow_iconst (v := 0) C dX5_readGates_25 rfl ?_
      exact ow_iret Z dX5_readGates_26 (Or.inl rfl) hh
def sm_X5_readGates_0 (K11 : Nat → Nat → Int32 → aw_H → Prop) (Q : aw_R) (p0 : Nat) (p1 : Nat) (h : aw_H) : Prop :=
  sv_O h p0 4 (tr_X5_isAtEnd [.ref p0] h fun r2 h1 => sr_I r2 fun v3 => if v3 = 0 then (K11 p0 p1 0 h1) else (Q (some (.int 1)) h1))
set_option maxRecDepth 100000 in
set_option maxHeartbeats 4000000 in
theorem bl_X5_readGates_0 {X : aw_X} {Q : aw_R} (C : aw_C X cX5_readGates RX5 3 3) (Z : aw_Z X cX5_readGates (some .boolean) Q) (p0 : Nat) (p1 : Nat) (h : aw_H) (hh : sm_X5_readGates_0 (fun (p0 : Nat) (p1 : Nat) (x2 : Int32) (h : aw_H) => Sat X 11 [.ref p0, .ref p1, .int x2] [] h) Q p0 p1 h) : Sat X 0 [.ref p0, .ref p1, Value.null] [] h := by
  unfold sm_X5_readGates_0 at hh
  refine ow_aload_n C dX5_readGates_0 rfl rfl ?_
  refine ow_callV C (cv_X5_isAtEnd _) (Nat.le_of_ble_eq_true rfl) kw_187 dX5_readGates_1 (as := []) (st := []) rfl rfl (Nat.le_of_ble_eq_true rfl) hh (fun r2 h1 hq => ?_)
  obtain ⟨v3, rfl, hh⟩ := sr_I_e hq
  show Sat X 4 [.ref p0, .ref p1, Value.null] [.int v3] h1
  refine ow_if_eq (tgt := 9) C dX5_readGates_4 (by decide) hh (fun hh => ?_) (fun hh => ?_)
  · skip
    refine ow_iconst (v := 0) C dX5_readGates_9 rfl ?_
    refine ow_istore_n (L' := [.ref p0, .ref p1, .int 0]) C dX5_readGates_10 rfl (by decide) rfl ?_
    exact Sat.mask hh (mk_y (mk_y (mk_y mk_0)))
  · skip
    refine ow_iconst (v := 1) C dX5_readGates_7 rfl ?_
    exact ow_iret Z dX5_readGates_8 (Or.inr rfl) hh
def tr_X5_readGates : aw_T := fun as h Q => ∃ (p0 : Nat) (p1 : Nat), as = [.ref p0, .ref p1] ∧ (∀ (K11 : Nat → Nat → Int32 → aw_H → Prop), (∀ (p0 : Nat) (p1 : Nat) (x2 : Int32) (h : aw_H), sm_X5_readGates_11 K11 Q p0 p1 x2 h → K11 p0 p1 x2 h) → sm_X5_readGates_0 K11 Q p0 p1 h)
theorem tq_X5_readGates {p0 : Nat} {p1 : Nat} {h : aw_H} {Q : aw_R} : tr_X5_readGates [.ref p0, .ref p1] h Q ↔ (∀ (K11 : Nat → Nat → Int32 → aw_H → Prop), (∀ (p0 : Nat) (p1 : Nat) (x2 : Int32) (h : aw_H), sm_X5_readGates_11 K11 Q p0 p1 x2 h → K11 p0 p1 x2 h) → sm_X5_readGates_0 K11 Q p0 p1 h) := by
  constructor
  · rintro ⟨_, _, as0, hh⟩
    cases as0
    exact hh
  · intro hh
    exact ⟨_, _, rfl, hh⟩
theorem ct_X5_readGates (E : aw_F) : CT E yX5_readGates cX5_readGates 3 (some .boolean) 3 tr_X5_readGates := by
  refine ct_of (by decide) ?_
  intro X Q as h hE C Z hG
  subst hE
  obtain ⟨p0, p1, rfl, hh⟩ := hG
  refine ⟨[.ref p0, .ref p1, Value.null], rfl, Nat.le_of_ble_eq_true rfl, ?_⟩
  exact bl_X5_readGates_0 C Z p0 p1 h (hh (fun (p0 : Nat) (p1 : Nat) (x2 : Int32) (h : aw_H) => Sat X 11 [.ref p0, .ref p1, .int x2] [] h) (fun p0 p1 x2 h hh => bl_X5_readGates_11 C Z p0 p1 x2 h hh))
theorem cv_X5_readGates (E : aw_F) : CV E yX5_readGates cX5_readGates 3 (some .boolean) 3 1 4 tr_X5_readGates := ⟨ct_X5_readGates E, by decide, kw_190, kw_191, kw_149, kw_189, by decide +kernel, _, _, rfl⟩
theorem dX5_readInto_0 : decode cX5_readInto 0 = .ok (.aload_n 0, 1) := by decide +kernel
theorem dX5_readInto_1 : decode cX5_readInto 1 = .ok (.iconst 0, 1) := by decide +kernel
theorem dX5_readInto_2 : decode cX5_readInto 2 = .ok (.putfield 19, 3) := by decide +kernel
theorem dX5_readInto_5 : decode cX5_readInto 5 = .ok (.aload_n 0, 1) := by decide +kernel
theorem dX5_readInto_6 : decode cX5_readInto 6 = .ok (.aload_n 1, 1) := by decide +kernel
theorem dX5_readInto_7 : decode cX5_readInto 7 = .ok (.invokevirtual 22, 3) := by decide +kernel
theorem dX5_readInto_10 : decode cX5_readInto 10 = .ok (.ifCond .eq 32, 3) := by decide +kernel
theorem dX5_readInto_13 : decode cX5_readInto 13 = .ok (.aload_n 0, 1) := by decide +kernel
theorem dX5_readInto_14 : decode cX5_readInto 14 = .ok (.aload_n 1, 1) := by decide +kernel
theorem dX5_readInto_15 : decode cX5_readInto 15 = .ok (.invokevirtual 26, 3) := by decide +kernel
theorem dX5_readInto_18 : decode cX5_readInto 18 = .ok (.ifCond .eq 24, 3) := by decide +kernel
theorem dX5_readInto_21 : decode cX5_readInto 21 = .ok (.aload_n 0, 1) := by decide +kernel
theorem dX5_readInto_22 : decode cX5_readInto 22 = .ok (.bipush 58, 2) := by decide +kernel
theorem dX5_readInto_24 : decode cX5_readInto 24 = .ok (.invokevirtual 29, 3) := by decide +kernel
theorem dX5_readInto_27 : decode cX5_readInto 27 = .ok (.ifCond .eq 15, 3) := by decide +kernel
theorem dX5_readInto_30 : decode cX5_readInto 30 = .ok (.aload_n 0, 1) := by decide +kernel
theorem dX5_readInto_31 : decode cX5_readInto 31 = .ok (.aload_n 1, 1) := by decide +kernel
theorem dX5_readInto_32 : decode cX5_readInto 32 = .ok (.invokevirtual 33, 3) := by decide +kernel
theorem dX5_readInto_35 : decode cX5_readInto 35 = .ok (.ifCond .eq 7, 3) := by decide +kernel
theorem dX5_readInto_38 : decode cX5_readInto 38 = .ok (.iconst 1, 1) := by decide +kernel
theorem dX5_readInto_39 : decode cX5_readInto 39 = .ok (.goto 4, 3) := by decide +kernel
theorem dX5_readInto_42 : decode cX5_readInto 42 = .ok (.iconst 0, 1) := by decide +kernel
theorem dX5_readInto_43 : decode cX5_readInto 43 = .ok (.ireturn, 1) := by decide +kernel
def sm_X5_readInto_0  (Q : aw_R) (p0 : Nat) (p1 : Nat) (h : aw_H) : Prop :=
  sp_I h p0 4 2 0 fun h1 => sv_O h1 p0 4 (tr_X5_readWires [.ref p0, .ref p1] h1 fun r3 h2 => sr_I r3 fun v4 => if v4 = 0 then (Q (some (.int 0)) h2) else (sv_O h2 p0 4 (tr_X5_readBits [.ref p0, .ref p1] h2 fun r6 h5 => sr_I r6 fun v7 => if v7 = 0 then (Q (some (.int 0)) h5) else (sv_O h5 p0 4 (tr_X5_takes [.ref p0, .int 58] h5 fun r9 h8 => sr_I r9 fun v10 => if v10 = 0 then (Q (some (.int 0)) h8) else (sv_O h8 p0 4 (tr_X5_readGates [.ref p0, .ref p1] h8 fun r12 h11 => sr_I r12 fun v13 => if v13 = 0 then (Q (some (.int 0)) h11) else (Q (some (.int 1)) h11))))))))
set_option maxRecDepth 100000 in
set_option maxHeartbeats 4000000 in
theorem bl_X5_readInto_0 {X : aw_X} {Q : aw_R} (C : aw_C X cX5_readInto RX5 2 4) (Z : aw_Z X cX5_readInto (some .boolean) Q) (p0 : Nat) (p1 : Nat) (h : aw_H) (hh : sm_X5_readInto_0  Q p0 p1 h) : Sat X 0 [.ref p0, .ref p1] [] h := by
  unfold sm_X5_readInto_0 at hh
  refine ow_aload_n C dX5_readInto_0 rfl rfl ?_
  refine ow_iconst (v := 0) C dX5_readInto_1 rfl ?_
  refine ow_putI (ci := 4) (k := 2) (T := TX5) C rfl igX5 tyX5 tyX5_ok nmX5 (by decide) kw_152 rfl (by decide +kernel) dX5_readInto_2 hh (fun h1 hh => ?_)
  refine ow_aload_n C dX5_readInto_5 rfl rfl ?_
  refine ow_aload_n C dX5_readInto_6 rfl rfl ?_
  refine ow_callV C (cv_X5_readWires _) (Nat.le_of_ble_eq_true rfl) kw_192 dX5_readInto_7 (as := [.ref p1]) (st := []) rfl rfl (Nat.le_of_ble_eq_true rfl) hh (fun r3 h2 hq => ?_)
  obtain ⟨v4, rfl, hh⟩ := sr_I_e hq
  show Sat X 10 [.ref p0, .ref p1] [.int v4] h2
  refine ow_if_eq (tgt := 42) C dX5_readInto_10 (by decide) hh (fun hh => ?_) (fun hh => ?_)
  · skip
    refine ow_iconst (v := 0) C dX5_readInto_42 rfl ?_
    exact ow_iret Z dX5_readInto_43 (Or.inl rfl) hh
  · skip
    refine ow_aload_n C dX5_readInto_13 rfl rfl ?_
    refine ow_aload_n C dX5_readInto_14 rfl rfl ?_
    refine ow_callV C (cv_X5_readBits _) (Nat.le_of_ble_eq_true rfl) kw_193 dX5_readInto_15 (as := [.ref p1]) (st := []) rfl rfl (Nat.le_of_ble_eq_true rfl) hh (fun r6 h5 hq => ?_)
    obtain ⟨v7, rfl, hh⟩ := sr_I_e hq
    show Sat X 18 [.ref p0, .ref p1] [.int v7] h5
    refine ow_if_eq (tgt := 42) C dX5_readInto_18 (by decide) hh (fun hh => ?_) (fun hh => ?_)
    · skip
      refine ow_iconst (v := 0) C dX5_readInto_42 rfl ?_
      exact ow_iret Z dX5_readInto_43 (Or.inl rfl) hh
    · skip
      refine ow_aload_n C dX5_readInto_21 rfl rfl ?_
      refine ow_bipush (v := 58) C dX5_readInto_22 rfl ?_
      refine ow_callV C (cv_X5_takes _) (Nat.le_of_ble_eq_true rfl) kw_168 dX5_readInto_24 (as := [.int 58]) (st := []) rfl rfl (Nat.le_of_ble_eq_true rfl) hh (fun r9 h8 hq => ?_)
      obtain ⟨v10, rfl, hh⟩ := sr_I_e hq
      show Sat X 27 [.ref p0, .ref p1] [.int v10] h8
      refine ow_if_eq (tgt := 42) C dX5_readInto_27 (by decide) hh (fun hh => ?_) (fun hh => ?_)
      · skip
        refine ow_iconst (v := 0) C dX5_readInto_42 rfl ?_
        exact ow_iret Z dX5_readInto_43 (Or.inl rfl) hh
      · skip
        refine ow_aload_n C dX5_readInto_30 rfl rfl ?_
        refine ow_aload_n C dX5_readInto_31 rfl rfl ?_
        refine ow_callV C (cv_X5_readGates _) (Nat.le_of_ble_eq_true rfl) kw_194 dX5_readInto_32 (as := [.ref p1]) (st := []) rfl rfl (Nat.le_of_ble_eq_true rfl) hh (fun r12 h11 hq => ?_)
        obtain ⟨v13, rfl, hh⟩ := sr_I_e hq
        show Sat X 35 [.ref p0, .ref p1] [.int v13] h11
        refine ow_if_eq (tgt := 42) C dX5_readInto_35 (by decide) hh (fun hh => ?_) (fun hh => ?_)
        · skip
          refine ow_iconst (v := 0) C dX5_readInto_42 rfl ?_
          exact ow_iret Z dX5_readInto_43 (Or.inl rfl) hh
        · skip
          refine ow_iconst (v := 1) C dX5_readInto_38 rfl ?_
          refine ow_goto (tgt := 43) C dX5_readInto_39 (by decide) ?_
          exact ow_iret Z dX5_readInto_43 (Or.inr rfl) hh
def tr_X5_readInto : aw_T := fun as h Q => ∃ (p0 : Nat) (p1 : Nat), as = [.ref p0, .ref p1] ∧ (sm_X5_readInto_0  Q p0 p1 h)
theorem tq_X5_readInto {p0 : Nat} {p1 : Nat} {h : aw_H} {Q : aw_R} : tr_X5_readInto [.ref p0, .ref p1] h Q ↔ (sm_X5_readInto_0  Q p0 p1 h) := by
  constructor
  · rintro ⟨_, _, as0, hh⟩
    cases as0
    exact hh
  · intro hh
    exact ⟨_, _, rfl, hh⟩
theorem ct_X5_readInto (E : aw_F) : CT E yX5_readInto cX5_readInto 2 (some .boolean) 4 tr_X5_readInto := by
  refine ct_of (by decide) ?_
  intro X Q as h hE C Z hG
  subst hE
  obtain ⟨p0, p1, rfl, hh⟩ := hG
  refine ⟨[.ref p0, .ref p1], rfl, Nat.le_of_ble_eq_true rfl, ?_⟩
  exact bl_X5_readInto_0 C Z p0 p1 h hh
theorem cv_X5_readInto (E : aw_F) : CV E yX5_readInto cX5_readInto 2 (some .boolean) 4 1 4 tr_X5_readInto := ⟨ct_X5_readInto E, by decide, kw_196, kw_197, kw_149, kw_195, by decide +kernel, _, _, rfl⟩
