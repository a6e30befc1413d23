theorem dX0_states_0 : decode cX0_states 0 = .ok (.iconst 1, 1) := by decide +kernel
theorem dX0_states_1 : decode cX0_states 1 = .ok (.aload_n 0, 1) := by decide +kernel
theorem dX0_states_2 : decode cX0_states 2 = .ok (.getfield 9, 3) := by decide +kernel
theorem dX0_states_5 : decode cX0_states 5 = .ok (.ishl, 1) := by decide +kernel
theorem dX0_states_6 : decode cX0_states 6 = .ok (.ireturn, 1) := by decide +kernel
def sm_X0_states_0  (Q : aw_R) (p0 : Nat) (h : aw_H) : Prop :=
  sg_I h p0 0 0 fun v1 => Q (some (.int ((1 : Int32) <<< (v1 &&& 31)))) h
set_option maxRecDepth 100000 in
set_option maxHeartbeats 4000000 in
theorem bl_X0_states_0 {X : aw_X} {Q : aw_R} (C : aw_C X cX0_states RX0 1 0) (Z : aw_Z X cX0_states (some .int) Q) (p0 : Nat) (h : aw_H) (hh : sm_X0_states_0  Q p0 h) : Sat X 0 [.ref p0] [] h := by
  unfold sm_X0_states_0 at hh
  refine ow_iconst (v := 1) C dX0_states_0 rfl ?_
  refine ow_aload_n C dX0_states_1 rfl rfl ?_
  refine ow_getI (ci := 0) (k := 0) (T := TX0) C rfl igX0 (by decide) kw_47 dX0_states_2 hh (fun v1 hh => ?_)
  refine ow_ishl C dX0_states_5 ?_
  exact ow_iret Z dX0_states_6 trivial hh
def tr_X0_states : aw_T := fun as h Q => ∃ (p0 : Nat), as = [.ref p0] ∧ (sm_X0_states_0  Q p0 h)
theorem tq_X0_states {p0 : Nat} {h : aw_H} {Q : aw_R} : tr_X0_states [.ref p0] h Q ↔ (sm_X0_states_0  Q p0 h) := by
  constructor
  · rintro ⟨_, as0, hh⟩
    cases as0
    exact hh
  · intro hh
    exact ⟨_, rfl, hh⟩
theorem ct_X0_states (E : aw_F) : CT E yX0_states cX0_states 1 (some .int) 0 tr_X0_states := by
  refine ct_of (by decide) ?_
  intro X Q as h hE C Z hG
  subst hE
  obtain ⟨p0, rfl, hh⟩ := hG
  refine ⟨[.ref p0], rfl, Nat.le_of_ble_eq_true rfl, ?_⟩
  exact bl_X0_states_0 C Z p0 h hh
theorem cv_X0_states (E : aw_F) : CV E yX0_states cX0_states 1 (some .int) 0 0 0 tr_X0_states := ⟨ct_X0_states E, by decide, kw_50, kw_51, kw_49, kw_48, by decide +kernel, _, _, rfl⟩
theorem dX0_clear_0 : decode cX0_clear 0 = .ok (.aload_n 0, 1) := by decide +kernel
theorem dX0_clear_1 : decode cX0_clear 1 = .ok (.iload_n 1, 1) := by decide +kernel
theorem dX0_clear_2 : decode cX0_clear 2 = .ok (.putfield 9, 3) := by decide +kernel
theorem dX0_clear_5 : decode cX0_clear 5 = .ok (.aload_n 0, 1) := by decide +kernel
theorem dX0_clear_6 : decode cX0_clear 6 = .ok (.iconst 0, 1) := by decide +kernel
theorem dX0_clear_7 : decode cX0_clear 7 = .ok (.putfield 22, 3) := by decide +kernel
theorem dX0_clear_10 : decode cX0_clear 10 = .ok (.aload_n 0, 1) := by decide +kernel
theorem dX0_clear_11 : decode cX0_clear 11 = .ok (.iconst 0, 1) := by decide +kernel
theorem dX0_clear_12 : decode cX0_clear 12 = .ok (.putfield 25, 3) := by decide +kernel
theorem dX0_clear_15 : decode cX0_clear 15 = .ok (.aload_n 0, 1) := by decide +kernel
theorem dX0_clear_16 : decode cX0_clear 16 = .ok (.iconst 0, 1) := by decide +kernel
theorem dX0_clear_17 : decode cX0_clear 17 = .ok (.putfield 28, 3) := by decide +kernel
theorem dX0_clear_20 : decode cX0_clear 20 = .ok (.return_, 1) := by decide +kernel
def sm_X0_clear_0  (Q : aw_R) (p0 : Nat) (x1 : Int32) (h : aw_H) : Prop :=
  sp_I h p0 0 0 x1 fun h1 => sp_I h1 p0 0 1 0 fun h2 => sp_I h2 p0 0 3 0 fun h3 => sp_I h3 p0 0 4 0 fun h4 => Q none h4
set_option maxRecDepth 100000 in
set_option maxHeartbeats 4000000 in
theorem bl_X0_clear_0 {X : aw_X} {Q : aw_R} (C : aw_C X cX0_clear RX0 2 0) (Z : aw_Z X cX0_clear none Q) (p0 : Nat) (x1 : Int32) (h : aw_H) (hh : sm_X0_clear_0  Q p0 x1 h) : Sat X 0 [.ref p0, .int x1] [] h := by
  unfold sm_X0_clear_0 at hh
  refine ow_aload_n C dX0_clear_0 rfl rfl ?_
  refine ow_iload_n C dX0_clear_1 rfl rfl ?_
  refine ow_putI (ci := 0) (k := 0) (T := TX0) C rfl igX0 tyX0 tyX0_ok nmX0 (by decide) kw_47 rfl (by decide +kernel) dX0_clear_2 hh (fun h1 hh => ?_)
  refine ow_aload_n C dX0_clear_5 rfl rfl ?_
  refine ow_iconst (v := 0) C dX0_clear_6 rfl ?_
  refine ow_putI (ci := 0) (k := 1) (T := TX0) C rfl igX0 tyX0 tyX0_ok nmX0 (by decide) kw_52 rfl (by decide +kernel) dX0_clear_7 hh (fun h2 hh => ?_)
  refine ow_aload_n C dX0_clear_10 rfl rfl ?_
  refine ow_iconst (v := 0) C dX0_clear_11 rfl ?_
  refine ow_putI (ci := 0) (k := 3) (T := TX0) C rfl igX0 tyX0 tyX0_ok nmX0 (by decide) kw_53 rfl (by decide +kernel) dX0_clear_12 hh (fun h3 hh => ?_)
  refine ow_aload_n C dX0_clear_15 rfl rfl ?_
  refine ow_iconst (v := 0) C dX0_clear_16 rfl ?_
  refine ow_putI (ci := 0) (k := 4) (T := TX0) C rfl igX0 tyX0 tyX0_ok nmX0 (by decide) kw_54 rfl (by decide +kernel) dX0_clear_17 hh (fun h4 hh => ?_)
  exact ow_vret Z dX0_clear_20 trivial hh
def tr_X0_clear : aw_T := fun as h Q => ∃ (p0 : Nat) (x1 : Int32), as = [.ref p0, .int x1] ∧ (sm_X0_clear_0  Q p0 x1 h)
theorem tq_X0_clear {p0 : Nat} {x1 : Int32} {h : aw_H} {Q : aw_R} : tr_X0_clear [.ref p0, .int x1] h Q ↔ (sm_X0_clear_0  Q p0 x1 h) := by
  constructor
  · rintro ⟨_, _, as0, hh⟩
    cases as0
    exact hh
  · intro hh
    exact ⟨_, _, rfl, hh⟩
theorem ct_X0_clear (E : aw_F) : CT E yX0_clear cX0_clear 2 none 0 tr_X0_clear := by
  refine ct_of (by decide) ?_
  intro X Q as h hE C Z hG
  subst hE
  obtain ⟨p0, x1, rfl, hh⟩ := hG
  refine ⟨[.ref p0, .int x1], rfl, Nat.le_of_ble_eq_true rfl, ?_⟩
  exact bl_X0_clear_0 C Z p0 x1 h hh
theorem cv_X0_clear (E : aw_F) : CV E yX0_clear cX0_clear 2 none 0 1 0 tr_X0_clear := ⟨ct_X0_clear E, by decide, kw_56, kw_57, kw_49, kw_55, by decide +kernel, _, _, rfl⟩
theorem dX0_becomes_0 : decode cX0_becomes 0 = .ok (.aload_n 0, 1) := by decide +kernel
theorem dX0_becomes_1 : decode cX0_becomes 1 = .ok (.aload_n 1, 1) := by decide +kernel
theorem dX0_becomes_2 : decode cX0_becomes 2 = .ok (.getfield 9, 3) := by decide +kernel
theorem dX0_becomes_5 : decode cX0_becomes 5 = .ok (.putfield 9, 3) := by decide +kernel
theorem dX0_becomes_8 : decode cX0_becomes 8 = .ok (.aload_n 0, 1) := by decide +kernel
theorem dX0_becomes_9 : decode cX0_becomes 9 = .ok (.aload_n 1, 1) := by decide +kernel
theorem dX0_becomes_10 : decode cX0_becomes 10 = .ok (.getfield 22, 3) := by decide +kernel
theorem dX0_becomes_13 : decode cX0_becomes 13 = .ok (.putfield 22, 3) := by decide +kernel
theorem dX0_becomes_16 : decode cX0_becomes 16 = .ok (.aload_n 1, 1) := by decide +kernel
theorem dX0_becomes_17 : decode cX0_becomes 17 = .ok (.getfield 15, 3) := by decide +kernel
theorem dX0_becomes_20 : decode cX0_becomes 20 = .ok (.iconst 0, 1) := by decide +kernel
theorem dX0_becomes_21 : decode cX0_becomes 21 = .ok (.aload_n 0, 1) := by decide +kernel
theorem dX0_becomes_22 : decode cX0_becomes 22 = .ok (.getfield 15, 3) := by decide +kernel
theorem dX0_becomes_25 : decode cX0_becomes 25 = .ok (.iconst 0, 1) := by decide +kernel
theorem dX0_becomes_26 : decode cX0_becomes 26 = .ok (.bipush 16, 2) := by decide +kernel
theorem dX0_becomes_28 : decode cX0_becomes 28 = .ok (.invokestatic 31, 3) := by decide +kernel
theorem dX0_becomes_31 : decode cX0_becomes 31 = .ok (.aload_n 0, 1) := by decide +kernel
theorem dX0_becomes_32 : decode cX0_becomes 32 = .ok (.aload_n 1, 1) := by decide +kernel
theorem dX0_becomes_33 : decode cX0_becomes 33 = .ok (.getfield 25, 3) := by decide +kernel
theorem dX0_becomes_36 : decode cX0_becomes 36 = .ok (.putfield 25, 3) := by decide +kernel
theorem dX0_becomes_39 : decode cX0_becomes 39 = .ok (.aload_n 0, 1) := by decide +kernel
theorem dX0_becomes_40 : decode cX0_becomes 40 = .ok (.aload_n 1, 1) := by decide +kernel
theorem dX0_becomes_41 : decode cX0_becomes 41 = .ok (.getfield 28, 3) := by decide +kernel
theorem dX0_becomes_44 : decode cX0_becomes 44 = .ok (.putfield 28, 3) := by decide +kernel
theorem dX0_becomes_47 : decode cX0_becomes 47 = .ok (.aload_n 0, 1) := by decide +kernel
theorem dX0_becomes_48 : decode cX0_becomes 48 = .ok (.aload_n 1, 1) := by decide +kernel
theorem dX0_becomes_49 : decode cX0_becomes 49 = .ok (.getfield 19, 3) := by decide +kernel
theorem dX0_becomes_52 : decode cX0_becomes 52 = .ok (.putfield 19, 3) := by decide +kernel
theorem dX0_becomes_55 : decode cX0_becomes 55 = .ok (.return_, 1) := by decide +kernel
def sm_X0_becomes_0  (Q : aw_R) (p0 : Nat) (p1 : Nat) (h : aw_H) : Prop :=
  sg_I h p1 0 0 fun v1 => sp_I h p0 0 0 v1 fun h2 => sg_I h2 p1 0 1 fun v3 => sp_I h2 p0 0 1 v3 fun h4 => sg_R h4 p1 0 2 fun q5 => sg_R h4 p0 0 2 fun q6 => sc_I h4 q5 0 q6 0 16 fun h7 => sg_I h7 p1 0 3 fun v8 => sp_I h7 p0 0 3 v8 fun h9 => sg_I h9 p1 0 4 fun v10 => sp_I h9 p0 0 4 v10 fun h11 => sg_I h11 p1 0 5 fun v12 => sp_I h11 p0 0 5 v12 fun h13 => Q none h13
set_option maxRecDepth 100000 in
set_option maxHeartbeats 4000000 in
theorem bl_X0_becomes_0 {X : aw_X} {Q : aw_R} (C : aw_C X cX0_becomes RX0 2 1) (Z : aw_Z X cX0_becomes none Q) (p0 : Nat) (p1 : Nat) (h : aw_H) (hh : sm_X0_becomes_0  Q p0 p1 h) : Sat X 0 [.ref p0, .ref p1] [] h := by
  unfold sm_X0_becomes_0 at hh
  refine ow_aload_n C dX0_becomes_0 rfl rfl ?_
  refine ow_aload_n C dX0_becomes_1 rfl rfl ?_
  refine ow_getI (ci := 0) (k := 0) (T := TX0) C rfl igX0 (by decide) kw_47 dX0_becomes_2 hh (fun v1 hh => ?_)
  refine ow_putI (ci := 0) (k := 0) (T := TX0) C rfl igX0 tyX0 tyX0_ok nmX0 (by decide) kw_47 rfl (by decide +kernel) dX0_becomes_5 hh (fun h2 hh => ?_)
  refine ow_aload_n C dX0_becomes_8 rfl rfl ?_
  refine ow_aload_n C dX0_becomes_9 rfl rfl ?_
  refine ow_getI (ci := 0) (k := 1) (T := TX0) C rfl igX0 (by decide) kw_52 dX0_becomes_10 hh (fun v3 hh => ?_)
  refine ow_putI (ci := 0) (k := 1) (T := TX0) C rfl igX0 tyX0 tyX0_ok nmX0 (by decide) kw_52 rfl (by decide +kernel) dX0_becomes_13 hh (fun h4 hh => ?_)
  refine ow_aload_n C dX0_becomes_16 rfl rfl ?_
  refine ow_getR (ci := 0) (k := 2) (T := TX0) C rfl igX0 (by decide) kw_58 dX0_becomes_17 hh (fun q5 hh => ?_)
  refine ow_iconst (v := 0) C dX0_becomes_20 rfl ?_
  refine ow_aload_n C dX0_becomes_21 rfl rfl ?_
  refine ow_getR (ci := 0) (k := 2) (T := TX0) C rfl igX0 (by decide) kw_58 dX0_becomes_22 hh (fun q6 hh => ?_)
  refine ow_iconst (v := 0) C dX0_becomes_25 rfl ?_
  refine ow_bipush (v := 16) C dX0_becomes_26 rfl ?_
  refine ow_copyI C (Nat.le_of_ble_eq_true rfl) kw_59 kw_60 kw_61 kw_62 dX0_becomes_28 hh (Nat.le_of_ble_eq_true rfl) (fun h7 hh => ?_)
  refine ow_aload_n C dX0_becomes_31 rfl rfl ?_
  refine ow_aload_n C dX0_becomes_32 rfl rfl ?_
  refine ow_getI (ci := 0) (k := 3) (T := TX0) C rfl igX0 (by decide) kw_53 dX0_becomes_33 hh (fun v8 hh => ?_)
  refine ow_putI (ci := 0) (k := 3) (T := TX0) C rfl igX0 tyX0 tyX0_ok nmX0 (by decide) kw_53 rfl (by decide +kernel) dX0_becomes_36 hh (fun h9 hh => ?_)
  refine ow_aload_n C dX0_becomes_39 rfl rfl ?_
  refine ow_aload_n C dX0_becomes_40 rfl rfl ?_
  refine ow_getI (ci := 0) (k := 4) (T := TX0) C rfl igX0 (by decide) kw_54 dX0_becomes_41 hh (fun v10 hh => ?_)
  refine ow_putI (ci := 0) (k := 4) (T := TX0) C rfl igX0 tyX0 tyX0_ok nmX0 (by decide) kw_54 rfl (by decide +kernel) dX0_becomes_44 hh (fun h11 hh => ?_)
  refine ow_aload_n C dX0_becomes_47 rfl rfl ?_
  refine ow_aload_n C dX0_becomes_48 rfl rfl ?_
  refine ow_getI (ci := 0) (k := 5) (T := TX0) C rfl igX0 (by decide) kw_63 dX0_becomes_49 hh (fun v12 hh => ?_)
  refine ow_putI (ci := 0) (k := 5) (T := TX0) C rfl igX0 tyX0 tyX0_ok nmX0 (by decide) kw_63 rfl (by decide +kernel) dX0_becomes_52 hh (fun h13 hh => ?_)
  exact ow_vret Z dX0_becomes_55 trivial hh
def tr_X0_becomes : aw_T := fun as h Q => ∃ (p0 : Nat) (p1 : Nat), as = [.ref p0, .ref p1] ∧ (sm_X0_becomes_0  Q p0 p1 h)
theorem tq_X0_becomes {p0 : Nat} {p1 : Nat} {h : aw_H} {Q : aw_R} : tr_X0_becomes [.ref p0, .ref p1] h Q ↔ (sm_X0_becomes_0  Q p0 p1 h) := by
  constructor
  · rintro ⟨_, _, as0, hh⟩
    cases as0
    exact hh
  · intro hh
    exact ⟨_, _, rfl, hh⟩
theorem ct_X0_becomes (E : aw_F) : CT E yX0_becomes cX0_becomes 2 none 1 tr_X0_becomes := by
  refine ct_of (by decide) ?_
  intro X Q as h hE C Z hG
  subst hE
  obtain ⟨p0, p1, rfl, hh⟩ := hG
  refine ⟨[.ref p0, .ref p1], rfl, Nat.le_of_ble_eq_true rfl, ?_⟩
  exact bl_X0_becomes_0 C Z p0 p1 h hh
theorem cv_X0_becomes (E : aw_F) : CV E yX0_becomes cX0_becomes 2 none 1 1 0 tr_X0_becomes := ⟨ct_X0_becomes E, by decide, kw_65, kw_66, kw_49, kw_64, by decide +kernel, _, _, rfl⟩
theorem dX0_add_0 : decode cX0_add 0 = .ok (.aload_n 0, 1) := by decide +kernel
theorem dX0_add_1 : decode cX0_add 1 = .ok (.getfield 22, 3) := by decide +kernel
theorem dX0_add_4 : decode cX0_add 4 = .ok (.bipush 16, 2) := by decide +kernel
theorem dX0_add_6 : decode cX0_add 6 = .ok (.if_icmp .ge 23, 3) := by decide +kernel
theorem dX0_add_9 : decode cX0_add 9 = .ok (.aload_n 0, 1) := by decide +kernel
theorem dX0_add_10 : decode cX0_add 10 = .ok (.getfield 15, 3) := by decide +kernel
theorem dX0_add_13 : decode cX0_add 13 = .ok (.aload_n 0, 1) := by decide +kernel
theorem dX0_add_14 : decode cX0_add 14 = .ok (.getfield 22, 3) := by decide +kernel
theorem dX0_add_17 : decode cX0_add 17 = .ok (.iload_n 1, 1) := by decide +kernel
theorem dX0_add_18 : decode cX0_add 18 = .ok (.iastore, 1) := by decide +kernel
theorem dX0_add_19 : decode cX0_add 19 = .ok (.aload_n 0, 1) := by decide +kernel
theorem dX0_add_20 : decode cX0_add 20 = .ok (.dup, 1) := by decide +kernel
theorem dX0_add_21 : decode cX0_add 21 = .ok (.getfield 22, 3) := by decide +kernel
theorem dX0_add_24 : decode cX0_add 24 = .ok (.iconst 1, 1) := by decide +kernel
theorem dX0_add_25 : decode cX0_add 25 = .ok (.iadd, 1) := by decide +kernel
theorem dX0_add_26 : decode cX0_add 26 = .ok (.putfield 22, 3) := by decide +kernel
theorem dX0_add_29 : decode cX0_add 29 = .ok (.return_, 1) := by decide +kernel
def sm_X0_add_0  (Q : aw_R) (p0 : Nat) (x1 : Int32) (h : aw_H) : Prop :=
  sg_I h p0 0 1 fun v1 => if 16 ≤ v1 then (Q none h) else (sg_R h p0 0 2 fun q2 => sg_I h p0 0 1 fun v3 => ss_I h q2 v3 x1 fun h4 => sg_I h4 p0 0 1 fun v5 => sp_I h4 p0 0 1 (v5 + 1) fun h6 => Q none h6)
set_option maxRecDepth 100000 in
set_option maxHeartbeats 4000000 in
theorem bl_X0_add_0 {X : aw_X} {Q : aw_R} (C : aw_C X cX0_add RX0 2 0) (Z : aw_Z X cX0_add none Q) (p0 : Nat) (x1 : Int32) (h : aw_H) (hh : sm_X0_add_0  Q p0 x1 h) : Sat X 0 [.ref p0, .int x1] [] h := by
  unfold sm_X0_add_0 at hh
  refine ow_aload_n C dX0_add_0 rfl rfl ?_
  refine ow_getI (ci := 0) (k := 1) (T := TX0) C rfl igX0 (by decide) kw_52 dX0_add_1 hh (fun v1 hh => ?_)
  refine ow_bipush (v := 16) C dX0_add_4 rfl ?_
  refine ow_icmp_ge (tgt := 29) C dX0_add_6 (by decide) hh (fun hh => ?_) (fun hh => ?_)
  · skip
    exact ow_vret Z dX0_add_29 trivial hh
  · skip
    refine ow_aload_n C dX0_add_9 rfl rfl ?_
    refine ow_getR (ci := 0) (k := 2) (T := TX0) C rfl igX0 (by decide) kw_58 dX0_add_10 hh (fun q2 hh => ?_)
    refine ow_aload_n C dX0_add_13 rfl rfl ?_
    refine ow_getI (ci := 0) (k := 1) (T := TX0) C rfl igX0 (by decide) kw_52 dX0_add_14 hh (fun v3 hh => ?_)
    refine ow_iload_n C dX0_add_17 rfl rfl ?_
    refine ow_iastore C dX0_add_18 hh (fun h4 hh => ?_)
    refine ow_aload_n C dX0_add_19 rfl rfl ?_
    refine ow_dup C dX0_add_20 rfl ?_
    refine ow_getI (ci := 0) (k := 1) (T := TX0) C rfl igX0 (by decide) kw_52 dX0_add_21 hh (fun v5 hh => ?_)
    refine ow_iconst (v := 1) C dX0_add_24 rfl ?_
    refine ow_iadd C dX0_add_25 ?_
    refine ow_putI (ci := 0) (k := 1) (T := TX0) C rfl igX0 tyX0 tyX0_ok nmX0 (by decide) kw_52 rfl (by decide +kernel) dX0_add_26 hh (fun h6 hh => ?_)
    exact ow_vret Z dX0_add_29 trivial hh
def tr_X0_add : aw_T := fun as h Q => ∃ (p0 : Nat) (x1 : Int32), as = [.ref p0, .int x1] ∧ (sm_X0_add_0  Q p0 x1 h)
theorem tq_X0_add {p0 : Nat} {x1 : Int32} {h : aw_H} {Q : aw_R} : tr_X0_add [.ref p0, .int x1] h Q ↔ (sm_X0_add_0  Q p0 x1 h) := by
  constructor
  · rintro ⟨_, _, as0, hh⟩
    cases as0
    exact hh
  · intro hh
    exact ⟨_, _, rfl, hh⟩
theorem ct_X0_add (E : aw_F) : CT E yX0_add cX0_add 2 none 0 tr_X0_add := by
  refine ct_of (by decide) ?_
  intro X Q as h hE C Z hG
  subst hE
  obtain ⟨p0, x1, rfl, hh⟩ := hG
  refine ⟨[.ref p0, .int x1], rfl, Nat.le_of_ble_eq_true rfl, ?_⟩
  exact bl_X0_add_0 C Z p0 x1 h hh
theorem cv_X0_add (E : aw_F) : CV E yX0_add cX0_add 2 none 0 1 0 tr_X0_add := ⟨ct_X0_add E, by decide, kw_68, kw_69, kw_49, kw_67, by decide +kernel, _, _, rfl⟩
theorem dX0_deadOnes_0 : decode cX0_deadOnes 0 = .ok (.iconst 0, 1) := by decide +kernel
theorem dX0_deadOnes_1 : decode cX0_deadOnes 1 = .ok (.istore_n 1, 1) := by decide +kernel
theorem dX0_deadOnes_2 : decode cX0_deadOnes 2 = .ok (.iconst 0, 1) := by decide +kernel
theorem dX0_deadOnes_3 : decode cX0_deadOnes 3 = .ok (.istore_n 2, 1) := by decide +kernel
theorem dX0_deadOnes_4 : decode cX0_deadOnes 4 = .ok (.iload_n 2, 1) := by decide +kernel
theorem dX0_deadOnes_5 : decode cX0_deadOnes 5 = .ok (.aload_n 0, 1) := by decide +kernel
theorem dX0_deadOnes_6 : decode cX0_deadOnes 6 = .ok (.getfield 22, 3) := by decide +kernel
theorem dX0_deadOnes_9 : decode cX0_deadOnes 9 = .ok (.if_icmp .ge 27, 3) := by decide +kernel
theorem dX0_deadOnes_12 : decode cX0_deadOnes 12 = .ok (.aload_n 0, 1) := by decide +kernel
theorem dX0_deadOnes_13 : decode cX0_deadOnes 13 = .ok (.getfield 15, 3) := by decide +kernel
theorem dX0_deadOnes_16 : decode cX0_deadOnes 16 = .ok (.iload_n 2, 1) := by decide +kernel
theorem dX0_deadOnes_17 : decode cX0_deadOnes 17 = .ok (.iaload, 1) := by decide +kernel
theorem dX0_deadOnes_18 : decode cX0_deadOnes 18 = .ok (.invokestatic 37, 3) := by decide +kernel
theorem dX0_deadOnes_21 : decode cX0_deadOnes 21 = .ok (.ifCond .eq 9, 3) := by decide +kernel
theorem dX0_deadOnes_24 : decode cX0_deadOnes 24 = .ok (.iload_n 1, 1) := by decide +kernel
theorem dX0_deadOnes_25 : decode cX0_deadOnes 25 = .ok (.iconst 1, 1) := by decide +kernel
theorem dX0_deadOnes_26 : decode cX0_deadOnes 26 = .ok (.iload_n 2, 1) := by decide +kernel
theorem dX0_deadOnes_27 : decode cX0_deadOnes 27 = .ok (.ishl, 1) := by decide +kernel
theorem dX0_deadOnes_28 : decode cX0_deadOnes 28 = .ok (.ior, 1) := by decide +kernel
theorem dX0_deadOnes_29 : decode cX0_deadOnes 29 = .ok (.istore_n 1, 1) := by decide +kernel
theorem dX0_deadOnes_30 : decode cX0_deadOnes 30 = .ok (.iinc 2 1, 3) := by decide +kernel
theorem dX0_deadOnes_33 : decode cX0_deadOnes 33 = .ok (.goto (-29), 3) := by decide +kernel
theorem dX0_deadOnes_36 : decode cX0_deadOnes 36 = .ok (.iload_n 1, 1) := by decide +kernel
theorem dX0_deadOnes_37 : decode cX0_deadOnes 37 = .ok (.ireturn, 1) := by decide +kernel
def sm_X0_deadOnes_4 (K4 : Nat → Int32 → Int32 → aw_H → Prop) (Q : aw_R) (p0 : Nat) (x1 : Int32) (x2 : Int32) (h : aw_H) : Prop :=
  sg_I h p0 0 1 fun v1 => if v1 ≤ x2 then (Q (some (.int x1)) h) else (sg_R h p0 0 2 fun q2 => sa_I h q2 x2 fun v3 => tr_X2_isDead [.int v3] h fun r5 h4 => sr_I r5 fun v6 => if v6 = 0 then (K4 p0 x1 (x2 + 1) h4) else (K4 p0 (x1 ||| ((1 : Int32) <<< (x2 &&& 31))) (x2 + 1) h4))
set_option maxRecDepth 100000 in
set_option maxHeartbeats 4000000 in
theorem bl_X0_deadOnes_4 {X : aw_X} {Q : aw_R} (C : aw_C X cX0_deadOnes RX0 3 1) (Z : aw_Z X cX0_deadOnes (some .int) Q) (p0 : Nat) (x1 : Int32) (x2 : Int32) (h : aw_H) (hh : sm_X0_deadOnes_4 (fun (p0 : Nat) (x1 : Int32) (x2 : Int32) (h : aw_H) => Sat X 4 [.ref p0, .int x1, .int x2] [] h) Q p0 x1 x2 h) : Sat X 4 [.ref p0, .int x1, .int x2] [] h := by
  unfold sm_X0_deadOnes_4 at hh
  refine ow_iload_n C dX0_deadOnes_4 rfl rfl ?_
  refine ow_aload_n C dX0_deadOnes_5 rfl rfl ?_
  refine ow_getI (ci := 0) (k := 1) (T := TX0) C rfl igX0 (by decide) kw_52 dX0_deadOnes_6 hh (fun v1 hh => ?_)
  refine ow_icmp_ge (tgt := 36) C dX0_deadOnes_9 (by decide) hh (fun hh => ?_) (fun hh => ?_)
  · skip
    refine ow_iload_n C dX0_deadOnes_36 rfl rfl ?_
    exact ow_iret Z dX0_deadOnes_37 trivial hh
  · skip
    refine ow_aload_n C dX0_deadOnes_12 rfl rfl ?_
    refine ow_getR (ci := 0) (k := 2) (T := TX0) C rfl igX0 (by decide) kw_58 dX0_deadOnes_13 hh (fun q2 hh => ?_)
    refine ow_iload_n C dX0_deadOnes_16 rfl rfl ?_
    refine ow_iaload C dX0_deadOnes_17 hh (fun v3 hh => ?_)
    refine ow_callS C (cs_X2_isDead _) (Nat.le_of_ble_eq_true rfl) kw_70 dX0_deadOnes_18 (as := [.int v3]) (st := []) rfl rfl (Nat.le_of_ble_eq_true rfl) hh (fun r5 h4 hq => ?_)
    obtain ⟨v6, rfl, hh⟩ := sr_I_e hq
    show Sat X 21 [.ref p0, .int x1, .int x2] [.int v6] h4
    refine ow_if_eq (tgt := 30) C dX0_deadOnes_21 (by decide) hh (fun hh => ?_) (fun hh => ?_)
    · skip
      refine ow_iinc (v := x2 + 1) (L' := [.ref p0, .int x1, .int (x2 + 1)]) C dX0_deadOnes_30 rfl rfl (by decide) rfl ?_
      refine ow_goto (tgt := 4) C dX0_deadOnes_33 (by decide) ?_
      exact Sat.mask hh (mk_y (mk_y (mk_y mk_0)))
    · skip
      refine ow_iload_n C dX0_deadOnes_24 rfl rfl ?_
      refine ow_iconst (v := 1) C dX0_deadOnes_25 rfl ?_
      refine ow_iload_n C dX0_deadOnes_26 rfl rfl ?_
      refine ow_ishl C dX0_deadOnes_27 ?_
      refine ow_ior C dX0_deadOnes_28 ?_
      refine ow_istore_n (L' := [.ref p0, .int (x1 ||| ((1 : Int32) <<< (x2 &&& 31))), .int x2]) C dX0_deadOnes_29 rfl (by decide) rfl ?_
      refine ow_iinc (v := x2 + 1) (L' := [.ref p0, .int (x1 ||| ((1 : Int32) <<< (x2 &&& 31))), .int (x2 + 1)]) C dX0_deadOnes_30 rfl rfl (by decide) rfl ?_
      refine ow_goto (tgt := 4) C dX0_deadOnes_33 (by decide) ?_
      exact Sat.mask hh (mk_y (mk_y (mk_y mk_0)))
def sm_X0_deadOnes_0 (K4 : Nat → Int32 → Int32 → aw_H → Prop) (Q : aw_R) (p0 : Nat) (h : aw_H) : Prop :=
  K4 p0 0 0 h
set_option maxRecDepth 100000 in
set_option maxHeartbeats 4000000 in
theorem bl_X0_deadOnes_0 {X : aw_X} {Q : aw_R} (C : aw_C X cX0_deadOnes RX0 3 1) (Z : aw_Z X cX0_deadOnes (some .int) Q) (p0 : Nat) (h : aw_H) (hh : sm_X0_deadOnes_0 (fun (p0 : Nat) (x1 : Int32) (x2 : Int32) (h : aw_H) => Sat X 4 [.ref p0, .int x1, .int x2] [] h) Q p0 h) : Sat X 0 [.ref p0, Value.null, Value.null] [] h := by
  unfold sm_X0_deadOnes_0 at hh
  refine ow_iconst (v := 0) C dX0_deadOnes_0 rfl ?_
  refine ow_istore_n (L' := [.ref p0, .int 0, Value.null]) C dX0_deadOnes_1 rfl (by decide) rfl ?_
  refine ow_iconst (v := 0) C dX0_deadOnes_2 rfl ?_
  refine ow_istore_n (L' := [.ref p0, .int 0, .int 0]) C dX0_deadOnes_3 rfl (by decide) rfl ?_
  exact Sat.mask hh (mk_y (mk_y (mk_y mk_0)))
def tr_X0_deadOnes : aw_T := fun as h Q => ∃ (p0 : Nat), as = [.ref p0] ∧ (∀ (K4 : Nat → Int32 → Int32 → aw_H → Prop), (∀ (p0 : Nat) (x1 : Int32) (x2 : Int32) (h : aw_H), sm_X0_deadOnes_4 K4 Q p0 x1 x2 h → K4 p0 x1 x2 h) → sm_X0_deadOnes_0 K4 Q p0 h)
theorem tq_X0_deadOnes {p0 : Nat} {h : aw_H} {Q : aw_R} : tr_X0_deadOnes [.ref p0] h Q ↔ (∀ (K4 : Nat → Int32 → Int32 → aw_H → Prop), (∀ (p0 : Nat) (x1 : Int32) (x2 : Int32) (h : aw_H), sm_X0_deadOnes_4 K4 Q p0 x1 x2 h → K4 p0 x1 x2 h) → sm_X0_deadOnes_0 K4 Q p0 h) := by
  constructor
  · rintro ⟨_, as0, hh⟩
    cases as0
    exact hh
  · intro hh
    exact ⟨_, rfl, hh⟩
theorem ct_X0_deadOnes (E : aw_F) : CT E yX0_deadOnes cX0_deadOnes 3 (some .int) 1 tr_X0_deadOnes := by
  refine ct_of (by decide) ?_
  intro X Q as h hE C Z hG
  subst hE
  obtain ⟨p0, rfl, hh⟩ := hG
  refine ⟨[.ref p0, Value.null, Value.null], rfl, Nat.le_of_ble_eq_true rfl, ?_⟩
  exact bl_X0_deadOnes_0 C Z p0 h (hh (fun (p0 : Nat) (x1 : Int32) (x2 : Int32) (h : aw_H) => Sat X 4 [.ref p0, .int x1, .int x2] [] h) (fun p0 x1 x2 h hh => bl_X0_deadOnes_4 C Z p0 x1 x2 h hh))
theorem cv_X0_deadOnes (E : aw_F) : CV E yX0_deadOnes cX0_deadOnes 3 (some .int) 1 0 0 tr_X0_deadOnes := ⟨ct_X0_deadOnes E, by decide, kw_72, kw_73, kw_49, kw_71, by decide +kernel, _, _, rfl⟩
theorem dX0_stepOn_0 : decode cX0_stepOn 0 = .ok (.aload_n 0, 1) := by decide +kernel
theorem dX0_stepOn_1 : decode cX0_stepOn 1 = .ok (.getfield 28, 3) := by decide +kernel
theorem dX0_stepOn_4 : decode cX0_stepOn 4 = .ok (.aload_n 0, 1) := by decide +kernel
theorem dX0_stepOn_5 : decode cX0_stepOn 5 = .ok (.getfield 22, 3) := by decide +kernel
theorem dX0_stepOn_8 : decode cX0_stepOn 8 = .ok (.if_icmp .ge 33, 3) := by decide +kernel
theorem dX0_stepOn_11 : decode cX0_stepOn 11 = .ok (.aload_n 0, 1) := by decide +kernel
theorem dX0_stepOn_12 : decode cX0_stepOn 12 = .ok (.aload_n 0, 1) := by decide +kernel
theorem dX0_stepOn_13 : decode cX0_stepOn 13 = .ok (.getfield 15, 3) := by decide +kernel
theorem dX0_stepOn_16 : decode cX0_stepOn 16 = .ok (.aload_n 0, 1) := by decide +kernel
theorem dX0_stepOn_17 : decode cX0_stepOn 17 = .ok (.getfield 28, 3) := by decide +kernel
theorem dX0_stepOn_20 : decode cX0_stepOn 20 = .ok (.iaload, 1) := by decide +kernel
theorem dX0_stepOn_21 : decode cX0_stepOn 21 = .ok (.aload_n 0, 1) := by decide +kernel
theorem dX0_stepOn_22 : decode cX0_stepOn 22 = .ok (.getfield 25, 3) := by decide +kernel
theorem dX0_stepOn_25 : decode cX0_stepOn 25 = .ok (.invokestatic 43, 3) := by decide +kernel
theorem dX0_stepOn_28 : decode cX0_stepOn 28 = .ok (.putfield 25, 3) := by decide +kernel
theorem dX0_stepOn_31 : decode cX0_stepOn 31 = .ok (.aload_n 0, 1) := by decide +kernel
theorem dX0_stepOn_32 : decode cX0_stepOn 32 = .ok (.dup, 1) := by decide +kernel
theorem dX0_stepOn_33 : decode cX0_stepOn 33 = .ok (.getfield 28, 3) := by decide +kernel
theorem dX0_stepOn_36 : decode cX0_stepOn 36 = .ok (.iconst 1, 1) := by decide +kernel
theorem dX0_stepOn_37 : decode cX0_stepOn 37 = .ok (.iadd, 1) := by decide +kernel
theorem dX0_stepOn_38 : decode cX0_stepOn 38 = .ok (.putfield 28, 3) := by decide +kernel
theorem dX0_stepOn_41 : decode cX0_stepOn 41 = .ok (.return_, 1) := by decide +kernel
def sm_X0_stepOn_0  (Q : aw_R) (p0 : Nat) (h : aw_H) : Prop :=
  sg_I h p0 0 4 fun v1 => sg_I h p0 0 1 fun v2 => if v2 ≤ v1 then (Q none h) else (sg_R h p0 0 2 fun q3 => sg_I h p0 0 4 fun v4 => sa_I h q3 v4 fun v5 => sg_I h p0 0 3 fun v6 => tr_X2_act [.int v5, .int v6] h fun r8 h7 => sr_I r8 fun v9 => sp_I h7 p0 0 3 v9 fun h10 => sg_I h10 p0 0 4 fun v11 => sp_I h10 p0 0 4 (v11 + 1) fun h12 => Q none h12)
set_option maxRecDepth 100000 in
set_option maxHeartbeats 4000000 in
theorem bl_X0_stepOn_0 {X : aw_X} {Q : aw_R} (C : aw_C X cX0_stepOn RX0 1 3) (Z : aw_Z X cX0_stepOn none Q) (p0 : Nat) (h : aw_H) (hh : sm_X0_stepOn_0  Q p0 h) : Sat X 0 [.ref p0] [] h := by
  unfold sm_X0_stepOn_0 at hh
  refine ow_aload_n C dX0_stepOn_0 rfl rfl ?_
  refine ow_getI (ci := 0) (k := 4) (T := TX0) C rfl igX0 (by decide) kw_54 dX0_stepOn_1 hh (fun v1 hh => ?_)
  refine ow_aload_n C dX0_stepOn_4 rfl rfl ?_
  refine ow_getI (ci := 0) (k := 1) (T := TX0) C rfl igX0 (by decide) kw_52 dX0_stepOn_5 hh (fun v2 hh => ?_)
  refine ow_icmp_ge (tgt := 41) C dX0_stepOn_8 (by decide) hh (fun hh => ?_) (fun hh => ?_)
  · skip
    exact ow_vret Z dX0_stepOn_41 trivial hh
  · skip
    refine ow_aload_n C dX0_stepOn_11 rfl rfl ?_
    refine ow_aload_n C dX0_stepOn_12 rfl rfl ?_
    refine ow_getR (ci := 0) (k := 2) (T := TX0) C rfl igX0 (by decide) kw_58 dX0_stepOn_13 hh (fun q3 hh => ?_)
    refine ow_aload_n C dX0_stepOn_16 rfl rfl ?_
    refine ow_getI (ci := 0) (k := 4) (T := TX0) C rfl igX0 (by decide) kw_54 dX0_stepOn_17 hh (fun v4 hh => ?_)
    refine ow_iaload C dX0_stepOn_20 hh (fun v5 hh => ?_)
    refine ow_aload_n C dX0_stepOn_21 rfl rfl ?_
    refine ow_getI (ci := 0) (k := 3) (T := TX0) C rfl igX0 (by decide) kw_53 dX0_stepOn_22 hh (fun v6 hh => ?_)
    refine ow_callS C (cs_X2_act _) (Nat.le_of_ble_eq_true rfl) kw_74 dX0_stepOn_25 (as := [.int v5, .int v6]) (st := [.ref p0]) rfl rfl (Nat.le_of_ble_eq_true rfl) hh (fun r8 h7 hq => ?_)
    obtain ⟨v9, rfl, hh⟩ := sr_I_e hq
    show Sat X 28 [.ref p0] [.int v9, .ref p0] h7
    refine ow_putI (ci := 0) (k := 3) (T := TX0) C rfl igX0 tyX0 tyX0_ok nmX0 (by decide) kw_53 rfl (by decide +kernel) dX0_stepOn_28 hh (fun h10 hh => ?_)
    refine ow_aload_n C dX0_stepOn_31 rfl rfl ?_
    refine ow_dup C dX0_stepOn_32 rfl ?_
    refine ow_getI (ci := 0) (k := 4) (T := TX0) C rfl igX0 (by decide) kw_54 dX0_stepOn_33 hh (fun v11 hh => ?_)
    refine ow_iconst (v := 1) C dX0_stepOn_36 rfl ?_
    refine ow_iadd C dX0_stepOn_37 ?_
    refine ow_putI (ci := 0) (k := 4) (T := TX0) C rfl igX0 tyX0 tyX0_ok nmX0 (by decide) kw_54 rfl (by decide +kernel) dX0_stepOn_38 hh (fun h12 hh => ?_)
    exact ow_vret Z dX0_stepOn_41 trivial hh
def tr_X0_stepOn : aw_T := fun as h Q => ∃ (p0 : Nat), as = [.ref p0] ∧ (sm_X0_stepOn_0  Q p0 h)
theorem tq_X0_stepOn {p0 : Nat} {h : aw_H} {Q : aw_R} : tr_X0_stepOn [.ref p0] h Q ↔ (sm_X0_stepOn_0  Q p0 h) := by
  constructor
  · rintro ⟨_, as0, hh⟩
    cases as0
    exact hh
  · intro hh
    exact ⟨_, rfl, hh⟩
theorem ct_X0_stepOn (E : aw_F) : CT E yX0_stepOn cX0_stepOn 1 none 3 tr_X0_stepOn := by
  refine ct_of (by decide) ?_
  intro X Q as h hE C Z hG
  subst hE
  obtain ⟨p0, rfl, hh⟩ := hG
  refine ⟨[.ref p0], rfl, Nat.le_of_ble_eq_true rfl, ?_⟩
  exact bl_X0_stepOn_0 C Z p0 h hh
theorem cv_X0_stepOn (E : aw_F) : CV E yX0_stepOn cX0_stepOn 1 none 3 0 0 tr_X0_stepOn := ⟨ct_X0_stepOn E, by decide, kw_76, kw_77, kw_49, kw_75, by decide +kernel, _, _, rfl⟩
theorem dX0_stepBack_0 : decode cX0_stepBack 0 = .ok (.aload_n 0, 1) := by decide +kernel
theorem dX0_stepBack_1 : decode cX0_stepBack 1 = .ok (.getfield 28, 3) := by decide +kernel
theorem dX0_stepBack_4 : decode cX0_stepBack 4 = .ok (.ifCond .le 33, 3) := by decide +kernel
theorem dX0_stepBack_7 : decode cX0_stepBack 7 = .ok (.aload_n 0, 1) := by decide +kernel
theorem dX0_stepBack_8 : decode cX0_stepBack 8 = .ok (.dup, 1) := by decide +kernel
theorem dX0_stepBack_9 : decode cX0_stepBack 9 = .ok (.getfield 28, 3) := by decide +kernel
theorem dX0_stepBack_12 : decode cX0_stepBack 12 = .ok (.iconst 1, 1) := by decide +kernel
theorem dX0_stepBack_13 : decode cX0_stepBack 13 = .ok (.isub, 1) := by decide +kernel
theorem dX0_stepBack_14 : decode cX0_stepBack 14 = .ok (.putfield 28, 3) := by decide +kernel
theorem dX0_stepBack_17 : decode cX0_stepBack 17 = .ok (.aload_n 0, 1) := by decide +kernel
theorem dX0_stepBack_18 : decode cX0_stepBack 18 = .ok (.aload_n 0, 1) := by decide +kernel
theorem dX0_stepBack_19 : decode cX0_stepBack 19 = .ok (.getfield 15, 3) := by decide +kernel
theorem dX0_stepBack_22 : decode cX0_stepBack 22 = .ok (.aload_n 0, 1) := by decide +kernel
theorem dX0_stepBack_23 : decode cX0_stepBack 23 = .ok (.getfield 28, 3) := by decide +kernel
theorem dX0_stepBack_26 : decode cX0_stepBack 26 = .ok (.iaload, 1) := by decide +kernel
theorem dX0_stepBack_27 : decode cX0_stepBack 27 = .ok (.aload_n 0, 1) := by decide +kernel
theorem dX0_stepBack_28 : decode cX0_stepBack 28 = .ok (.getfield 25, 3) := by decide +kernel
theorem dX0_stepBack_31 : decode cX0_stepBack 31 = .ok (.invokestatic 43, 3) := by decide +kernel
theorem dX0_stepBack_34 : decode cX0_stepBack 34 = .ok (.putfield 25, 3) := by decide +kernel
theorem dX0_stepBack_37 : decode cX0_stepBack 37 = .ok (.return_, 1) := by decide +kernel
def sm_X0_stepBack_0  (Q : aw_R) (p0 : Nat) (h : aw_H) : Prop :=
  sg_I h p0 0 4 fun v1 => if v1 ≤ 0 then (Q none h) else (sg_I h p0 0 4 fun v2 => sp_I h p0 0 4 (v2 - 1) fun h3 => sg_R h3 p0 0 2 fun q4 => sg_I h3 p0 0 4 fun v5 => sa_I h3 q4 v5 fun v6 => sg_I h3 p0 0 3 fun v7 => tr_X2_act [.int v6, .int v7] h3 fun r9 h8 => sr_I r9 fun v10 => sp_I h8 p0 0 3 v10 fun h11 => Q none h11)
set_option maxRecDepth 100000 in
set_option maxHeartbeats 4000000 in
theorem bl_X0_stepBack_0 {X : aw_X} {Q : aw_R} (C : aw_C X cX0_stepBack RX0 1 3) (Z : aw_Z X cX0_stepBack none Q) (p0 : Nat) (h : aw_H) (hh : sm_X0_stepBack_0  Q p0 h) : Sat X 0 [.ref p0] [] h := by
  unfold sm_X0_stepBack_0 at hh
  refine ow_aload_n C dX0_stepBack_0 rfl rfl ?_
  refine ow_getI (ci := 0) (k := 4) (T := TX0) C rfl igX0 (by decide) kw_54 dX0_stepBack_1 hh (fun v1 hh => ?_)
  refine ow_if_le (tgt := 37) C dX0_stepBack_4 (by decide) hh (fun hh => ?_) (fun hh => ?_)
  · skip
    exact ow_vret Z dX0_stepBack_37 trivial hh
  · skip
    refine ow_aload_n C dX0_stepBack_7 rfl rfl ?_
    refine ow_dup C dX0_stepBack_8 rfl ?_
    refine ow_getI (ci := 0) (k := 4) (T := TX0) C rfl igX0 (by decide) kw_54 dX0_stepBack_9 hh (fun v2 hh => ?_)
    refine ow_iconst (v := 1) C dX0_stepBack_12 rfl ?_
    refine ow_isub C dX0_stepBack_13 ?_
    refine ow_putI (ci := 0) (k := 4) (T := TX0) C rfl igX0 tyX0 tyX0_ok nmX0 (by decide) kw_54 rfl (by decide +kernel) dX0_stepBack_14 hh (fun h3 hh => ?_)
    refine ow_aload_n C dX0_stepBack_17 rfl rfl ?_
    refine ow_aload_n C dX0_stepBack_18 rfl rfl ?_
    refine ow_getR (ci := 0) (k := 2) (T := TX0) C rfl igX0 (by decide) kw_58 dX0_stepBack_19 hh (fun q4 hh => ?_)
    refine ow_aload_n C dX0_stepBack_22 rfl rfl ?_
    refine ow_getI (ci := 0) (k := 4) (T := TX0) C rfl igX0 (by decide) kw_54 dX0_stepBack_23 hh (fun v5 hh => ?_)
    refine ow_iaload C dX0_stepBack_26 hh (fun v6 hh => ?_)
    refine ow_aload_n C dX0_stepBack_27 rfl rfl ?_
    refine ow_getI (ci := 0) (k := 3) (T := TX0) C rfl igX0 (by decide) kw_53 dX0_stepBack_28 hh (fun v7 hh => ?_)
    refine ow_callS C (cs_X2_act _) (Nat.le_of_ble_eq_true rfl) kw_74 dX0_stepBack_31 (as := [.int v6, .int v7]) (st := [.ref p0]) rfl rfl (Nat.le_of_ble_eq_true rfl) hh (fun r9 h8 hq => ?_)
    obtain ⟨v10, rfl, hh⟩ := sr_I_e hq
    show Sat X 34 [.ref p0] [.int v10, .ref p0] h8
    refine ow_putI (ci := 0) (k := 3) (T := TX0) C rfl igX0 tyX0 tyX0_ok nmX0 (by decide) kw_53 rfl (by decide +kernel) dX0_stepBack_34 hh (fun h11 hh => ?_)
    exact ow_vret Z dX0_stepBack_37 trivial hh
def tr_X0_stepBack : aw_T := fun as h Q => ∃ (p0 : Nat), as = [.ref p0] ∧ (sm_X0_stepBack_0  Q p0 h)
theorem tq_X0_stepBack {p0 : Nat} {h : aw_H} {Q : aw_R} : tr_X0_stepBack [.ref p0] h Q ↔ (sm_X0_stepBack_0  Q p0 h) := by
  constructor
  · rintro ⟨_, as0, hh⟩
    cases as0
    exact hh
  · intro hh
    exact ⟨_, rfl, hh⟩
theorem ct_X0_stepBack (E : aw_F) : CT E yX0_stepBack cX0_stepBack 1 none 3 tr_X0_stepBack := by
  refine ct_of (by decide) ?_
  intro X Q as h hE C Z hG
  subst hE
  obtain ⟨p0, rfl, hh⟩ := hG
  refine ⟨[.ref p0], rfl, Nat.le_of_ble_eq_true rfl, ?_⟩
  exact bl_X0_stepBack_0 C Z p0 h hh
theorem cv_X0_stepBack (E : aw_F) : CV E yX0_stepBack cX0_stepBack 1 none 3 0 0 tr_X0_stepBack := ⟨ct_X0_stepBack E, by decide, kw_79, kw_80, kw_49, kw_78, by decide +kernel, _, _, rfl⟩
theorem dX0_turnOver_0 : decode cX0_turnOver 0 = .ok (.aload_n 0, 1) := by decide +kernel
theorem dX0_turnOver_1 : decode cX0_turnOver 1 = .ok (.dup, 1) := by decide +kernel
theorem dX0_turnOver_2 : decode cX0_turnOver 2 = .ok (.getfield 25, 3) := by decide +kernel
theorem dX0_turnOver_5 : decode cX0_turnOver 5 = .ok (.iconst 1, 1) := by decide +kernel
theorem dX0_turnOver_6 : decode cX0_turnOver 6 = .ok (.iload_n 1, 1) := by decide +kernel
theorem dX0_turnOver_7 : decode cX0_turnOver 7 = .ok (.ishl, 1) := by decide +kernel
theorem dX0_turnOver_8 : decode cX0_turnOver 8 = .ok (.ixor, 1) := by decide +kernel
theorem dX0_turnOver_9 : decode cX0_turnOver 9 = .ok (.putfield 25, 3) := by decide +kernel
theorem dX0_turnOver_12 : decode cX0_turnOver 12 = .ok (.return_, 1) := by decide +kernel
def sm_X0_turnOver_0  (Q : aw_R) (p0 : Nat) (x1 : Int32) (h : aw_H) : Prop :=
  sg_I h p0 0 3 fun v1 => sp_I h p0 0 3 (v1 ^^^ ((1 : Int32) <<< (x1 &&& 31))) fun h2 => Q none h2
set_option maxRecDepth 100000 in
set_option maxHeartbeats 4000000 in
theorem bl_X0_turnOver_0 {X : aw_X} {Q : aw_R} (C : aw_C X cX0_turnOver RX0 2 0) (Z : aw_Z X cX0_turnOver none Q) (p0 : Nat) (x1 : Int32) (h : aw_H) (hh : sm_X0_turnOver_0  Q p0 x1 h) : Sat X 0 [.ref p0, .int x1] [] h := by
  unfold sm_X0_turnOver_0 at hh
  refine ow_aload_n C dX0_turnOver_0 rfl rfl ?_
  refine ow_dup C dX0_turnOver_1 rfl ?_
  refine ow_getI (ci := 0) (k := 3) (T := TX0) C rfl igX0 (by decide) kw_53 dX0_turnOver_2 hh (fun v1 hh => ?_)
  refine ow_iconst (v := 1) C dX0_turnOver_5 rfl ?_
  refine ow_iload_n C dX0_turnOver_6 rfl rfl ?_
  refine ow_ishl C dX0_turnOver_7 ?_
  refine ow_ixor C dX0_turnOver_8 ?_
  refine ow_putI (ci := 0) (k := 3) (T := TX0) C rfl igX0 tyX0 tyX0_ok nmX0 (by decide) kw_53 rfl (by decide +kernel) dX0_turnOver_9 hh (fun h2 hh => ?_)
  exact ow_vret Z dX0_turnOver_12 trivial hh
def tr_X0_turnOver : aw_T := fun as h Q => ∃ (p0 : Nat) (x1 : Int32), as = [.ref p0, .int x1] ∧ (sm_X0_turnOver_0  Q p0 x1 h)
theorem tq_X0_turnOver {p0 : Nat} {x1 : Int32} {h : aw_H} {Q : aw_R} : tr_X0_turnOver [.ref p0, .int x1] h Q ↔ (sm_X0_turnOver_0  Q p0 x1 h) := by
  constructor
  · rintro ⟨_, _, as0, hh⟩
    cases as0
    exact hh
  · intro hh
    exact ⟨_, _, rfl, hh⟩
theorem ct_X0_turnOver (E : aw_F) : CT E yX0_turnOver cX0_turnOver 2 none 0 tr_X0_turnOver := by
  refine ct_of (by decide) ?_
  intro X Q as h hE C Z hG
  subst hE
  obtain ⟨p0, x1, rfl, hh⟩ := hG
  refine ⟨[.ref p0, .int x1], rfl, Nat.le_of_ble_eq_true rfl, ?_⟩
  exact bl_X0_turnOver_0 C Z p0 x1 h hh
theorem cv_X0_turnOver (E : aw_F) : CV E yX0_turnOver cX0_turnOver 2 none 0 1 0 tr_X0_turnOver := ⟨ct_X0_turnOver E, by decide, kw_82, kw_83, kw_49, kw_81, by decide +kernel, _, _, rfl⟩
theorem dX0_driftOn_0 : decode cX0_driftOn 0 = .ok (.aload_n 0, 1) := by decide +kernel
theorem dX0_driftOn_1 : decode cX0_driftOn 1 = .ok (.aload_n 0, 1) := by decide +kernel
theorem dX0_driftOn_2 : decode cX0_driftOn 2 = .ok (.getfield 19, 3) := by decide +kernel
theorem dX0_driftOn_5 : decode cX0_driftOn 5 = .ok (.i2l, 1) := by decide +kernel
theorem dX0_driftOn_6 : decode cX0_driftOn 6 = .ok (.ldc2_w 47, 3) := by decide +kernel
theorem dX0_driftOn_9 : decode cX0_driftOn 9 = .ok (.lmul, 1) := by decide +kernel
theorem dX0_driftOn_10 : decode cX0_driftOn 10 = .ok (.ldc2_w 49, 3) := by decide +kernel
theorem dX0_driftOn_13 : decode cX0_driftOn 13 = .ok (.ladd, 1) := by decide +kernel
theorem dX0_driftOn_14 : decode cX0_driftOn 14 = .ok (.ldc2_w 51, 3) := by decide +kernel
theorem dX0_driftOn_17 : decode cX0_driftOn 17 = .ok (.land, 1) := by decide +kernel
theorem dX0_driftOn_18 : decode cX0_driftOn 18 = .ok (.l2i, 1) := by decide +kernel
theorem dX0_driftOn_19 : decode cX0_driftOn 19 = .ok (.putfield 19, 3) := by decide +kernel
theorem dX0_driftOn_22 : decode cX0_driftOn 22 = .ok (.aload_n 0, 1) := by decide +kernel
theorem dX0_driftOn_23 : decode cX0_driftOn 23 = .ok (.getfield 19, 3) := by decide +kernel
theorem dX0_driftOn_26 : decode cX0_driftOn 26 = .ok (.ldc 53, 2) := by decide +kernel
theorem dX0_driftOn_28 : decode cX0_driftOn 28 = .ok (.idiv, 1) := by decide +kernel
theorem dX0_driftOn_29 : decode cX0_driftOn 29 = .ok (.iconst 3, 1) := by decide +kernel
theorem dX0_driftOn_30 : decode cX0_driftOn 30 = .ok (.irem, 1) := by decide +kernel
theorem dX0_driftOn_31 : decode cX0_driftOn 31 = .ok (.ifCond .ne 27, 3) := by decide +kernel
theorem dX0_driftOn_34 : decode cX0_driftOn 34 = .ok (.aload_n 0, 1) := by decide +kernel
theorem dX0_driftOn_35 : decode cX0_driftOn 35 = .ok (.getfield 9, 3) := by decide +kernel
theorem dX0_driftOn_38 : decode cX0_driftOn 38 = .ok (.ifCond .le 20, 3) := by decide +kernel
theorem dX0_driftOn_41 : decode cX0_driftOn 41 = .ok (.aload_n 0, 1) := by decide +kernel
theorem dX0_driftOn_42 : decode cX0_driftOn 42 = .ok (.aload_n 0, 1) := by decide +kernel
theorem dX0_driftOn_43 : decode cX0_driftOn 43 = .ok (.getfield 19, 3) := by decide +kernel
theorem dX0_driftOn_46 : decode cX0_driftOn 46 = .ok (.sipush 256, 3) := by decide +kernel
theorem dX0_driftOn_49 : decode cX0_driftOn 49 = .ok (.idiv, 1) := by decide +kernel
theorem dX0_driftOn_50 : decode cX0_driftOn 50 = .ok (.aload_n 0, 1) := by decide +kernel
theorem dX0_driftOn_51 : decode cX0_driftOn 51 = .ok (.getfield 9, 3) := by decide +kernel
theorem dX0_driftOn_54 : decode cX0_driftOn 54 = .ok (.irem, 1) := by decide +kernel
theorem dX0_driftOn_55 : decode cX0_driftOn 55 = .ok (.invokevirtual 54, 3) := by decide +kernel
theorem dX0_driftOn_58 : decode cX0_driftOn 58 = .ok (.aload_n 0, 1) := by decide +kernel
theorem dX0_driftOn_59 : decode cX0_driftOn 59 = .ok (.getfield 28, 3) := by decide +kernel
theorem dX0_driftOn_62 : decode cX0_driftOn 62 = .ok (.aload_n 0, 1) := by decide +kernel
theorem dX0_driftOn_63 : decode cX0_driftOn 63 = .ok (.getfield 22, 3) := by decide +kernel
theorem dX0_driftOn_66 : decode cX0_driftOn 66 = .ok (.if_icmp .ge 10, 3) := by decide +kernel
theorem dX0_driftOn_69 : decode cX0_driftOn 69 = .ok (.aload_n 0, 1) := by decide +kernel
theorem dX0_driftOn_70 : decode cX0_driftOn 70 = .ok (.invokevirtual 58, 3) := by decide +kernel
theorem dX0_driftOn_73 : decode cX0_driftOn 73 = .ok (.goto 8, 3) := by decide +kernel
theorem dX0_driftOn_76 : decode cX0_driftOn 76 = .ok (.aload_n 0, 1) := by decide +kernel
theorem dX0_driftOn_77 : decode cX0_driftOn 77 = .ok (.iconst 0, 1) := by decide +kernel
theorem dX0_driftOn_78 : decode cX0_driftOn 78 = .ok (.putfield 28, 3) := by decide +kernel
theorem dX0_driftOn_81 : decode cX0_driftOn 81 = .ok (.return_, 1) := by decide +kernel
def sm_X0_driftOn_58  (Q : aw_R) (p0 : Nat) (h : aw_H) : Prop :=
  sg_I h p0 0 4 fun v1 => sg_I h p0 0 1 fun v2 => if v2 ≤ v1 then (sp_I h p0 0 4 0 fun h3 => Q none h3) else (sv_O h p0 0 (tr_X0_stepOn [.ref p0] h fun r5 h4 => sr_V r5 <| Q none h4))
set_option maxRecDepth 100000 in
set_option maxHeartbeats 4000000 in
theorem bl_X0_driftOn_58 {X : aw_X} {Q : aw_R} (C : aw_C X cX0_driftOn RX0 1 4) (Z : aw_Z X cX0_driftOn none Q) (p0 : Nat) (h : aw_H) (hh : sm_X0_driftOn_58  Q p0 h) : Sat X 58 [.ref p0] [] h := by
  unfold sm_X0_driftOn_58 at hh
  refine ow_aload_n C dX0_driftOn_58 rfl rfl ?_
  refine ow_getI (ci := 0) (k := 4) (T := TX0) C rfl igX0 (by decide) kw_54 dX0_driftOn_59 hh (fun v1 hh => ?_)
  refine ow_aload_n C dX0_driftOn_62 rfl rfl ?_
  refine ow_getI (ci := 0) (k := 1) (T := TX0) C rfl igX0 (by decide) kw_52 dX0_driftOn_63 hh (fun v2 hh => ?_)
  refine ow_icmp_ge (tgt := 76) C dX0_driftOn_66 (by decide) hh (fun hh => ?_) (fun hh => ?_)
  · skip
    refine ow_aload_n C dX0_driftOn_76 rfl rfl ?_
    refine ow_iconst (v := 0) C dX0_driftOn_77 rfl ?_
    refine ow_putI (ci := 0) (k := 4) (T := TX0) C rfl igX0 tyX0 tyX0_ok nmX0 (by decide) kw_54 rfl (by decide +kernel) dX0_driftOn_78 hh (fun h3 hh => ?_)
    exact ow_vret Z dX0_driftOn_81 trivial hh
  · skip
    refine ow_aload_n C dX0_driftOn_69 rfl rfl ?_
    refine ow_callV C (cv_X0_stepOn _) (Nat.le_of_ble_eq_true rfl) kw_84 dX0_driftOn_70 (as := []) (st := []) rfl rfl (Nat.le_of_ble_eq_true rfl) hh (fun r5 h4 hq => ?_)
    obtain ⟨rfl, hh⟩ := sr_V_e hq
    show Sat X 73 [.ref p0] [] h4
    refine ow_goto (tgt := 81) C dX0_driftOn_73 (by decide) ?_
    exact ow_vret Z dX0_driftOn_81 trivial hh
def sm_X0_driftOn_0  (Q : aw_R) (p0 : Nat) (h : aw_H) : Prop :=
  sg_I h p0 0 5 fun v1 => sp_I h p0 0 5 (Int64.toInt32 ((((Int32.toInt64 v1) * 1103515245) + 12345) &&& 2147483647)) fun h2 => sg_I h2 p0 0 5 fun v3 => ¬ (65536 : Int32) = 0 ∧ (¬ (3 : Int32) = 0 ∧ (if ¬ ((v3 / 65536) - (v3 / 65536) / 3 * 3) = 0 then (sm_X0_driftOn_58  Q p0 h2) else (sg_I h2 p0 0 0 fun v4 => if v4 ≤ 0 then (sm_X0_driftOn_58  Q p0 h2) else (sg_I h2 p0 0 5 fun v5 => ¬ (256 : Int32) = 0 ∧ (sg_I h2 p0 0 0 fun v6 => ¬ v6 = 0 ∧ (sv_O h2 p0 0 (tr_X0_turnOver [.ref p0, .int ((v5 / 256) - (v5 / 256) / v6 * v6)] h2 fun r8 h7 => sr_V r8 <| sm_X0_driftOn_58  Q p0 h7)))))))
set_option maxRecDepth 100000 in
set_option maxHeartbeats 4000000 in
theorem bl_X0_driftOn_0 {X : aw_X} {Q : aw_R} (C : aw_C X cX0_driftOn RX0 1 4) (Z : aw_Z X cX0_driftOn none Q) (p0 : Nat) (h : aw_H) (hh : sm_X0_driftOn_0  Q p0 h) : Sat X 0 [.ref p0] [] h := by
  unfold sm_X0_driftOn_0 at hh
  refine ow_aload_n C dX0_driftOn_0 rfl rfl ?_
  refine ow_aload_n C dX0_driftOn_1 rfl rfl ?_
  refine ow_getI (ci := 0) (k := 5) (T := TX0) C rfl igX0 (by decide) kw_63 dX0_driftOn_2 hh (fun v1 hh => ?_)
  refine ow_i2l C dX0_driftOn_5 ?_
  refine ow_ldc2 C kw_85 dX0_driftOn_6 ?_
  refine ow_lmul C dX0_driftOn_9 ?_
  refine ow_ldc2 C kw_86 dX0_driftOn_10 ?_
  refine ow_ladd C dX0_driftOn_13 ?_
  refine ow_ldc2 C kw_87 dX0_driftOn_14 ?_
  refine ow_land C dX0_driftOn_17 ?_
  refine ow_l2i C dX0_driftOn_18 ?_
  refine ow_putI (ci := 0) (k := 5) (T := TX0) C rfl igX0 tyX0 tyX0_ok nmX0 (by decide) kw_63 rfl (by decide +kernel) dX0_driftOn_19 hh (fun h2 hh => ?_)
  refine ow_aload_n C dX0_driftOn_22 rfl rfl ?_
  refine ow_getI (ci := 0) (k := 5) (T := TX0) C rfl igX0 (by decide) kw_63 dX0_driftOn_23 hh (fun v3 hh => ?_)
  refine ow_ldc C kw_88 dX0_driftOn_26 ?_
  refine ow_idiv C dX0_driftOn_28 hh (fun hh => ?_)
  refine ow_iconst (v := 3) C dX0_driftOn_29 rfl ?_
  refine ow_irem C dX0_driftOn_30 hh (fun hh => ?_)
  refine ow_if_ne (tgt := 58) C dX0_driftOn_31 (by decide) hh (fun hh => ?_) (fun hh => ?_)
  · skip
    exact Sat.mask (bl_X0_driftOn_58 C Z p0 h2 hh) (mk_y mk_0)
  · skip
    refine ow_aload_n C dX0_driftOn_34 rfl rfl ?_
    refine ow_getI (ci := 0) (k := 0) (T := TX0) C rfl igX0 (by decide) kw_47 dX0_driftOn_35 hh (fun v4 hh => ?_)
    refine ow_if_le (tgt := 58) C dX0_driftOn_38 (by decide) hh (fun hh => ?_) (fun hh => ?_)
    · skip
      exact Sat.mask (bl_X0_driftOn_58 C Z p0 h2 hh) (mk_y mk_0)
    · skip
      refine ow_aload_n C dX0_driftOn_41 rfl rfl ?_
      refine ow_aload_n C dX0_driftOn_42 rfl rfl ?_
      refine ow_getI (ci := 0) (k := 5) (T := TX0) C rfl igX0 (by decide) kw_63 dX0_driftOn_43 hh (fun v5 hh => ?_)
      refine ow_sipush (v := 256) C dX0_driftOn_46 rfl ?_
      refine ow_idiv C dX0_driftOn_49 hh (fun hh => ?_)
      refine ow_aload_n C dX0_driftOn_50 rfl rfl ?_
      refine ow_getI (ci := 0) (k := 0) (T := TX0) C rfl igX0 (by decide) kw_47 dX0_driftOn_51 hh (fun v6 hh => ?_)
      refine ow_irem C dX0_driftOn_54 hh (fun hh => ?_)
      refine ow_callV C (cv_X0_turnOver _) (Nat.le_of_ble_eq_true rfl) kw_89 dX0_driftOn_55 (as := [.int ((v5 / 256) - (v5 / 256) / v6 * v6)]) (st := []) rfl rfl (Nat.le_of_ble_eq_true rfl) hh (fun r8 h7 hq => ?_)
      obtain ⟨rfl, hh⟩ := sr_V_e hq
      show Sat X 58 [.ref p0] [] h7
      exact Sat.mask (bl_X0_driftOn_58 C Z p0 h7 hh) (mk_y mk_0)
def tr_X0_driftOn : aw_T := fun as h Q => ∃ (p0 : Nat), as = [.ref p0] ∧ (sm_X0_driftOn_0  Q p0 h)
theorem tq_X0_driftOn {p0 : Nat} {h : aw_H} {Q : aw_R} : tr_X0_driftOn [.ref p0] h Q ↔ (sm_X0_driftOn_0  Q p0 h) := by
  constructor
  · rintro ⟨_, as0, hh⟩
    cases as0
    exact hh
  · intro hh
    exact ⟨_, rfl, hh⟩
theorem ct_X0_driftOn (E : aw_F) : CT E yX0_driftOn cX0_driftOn 1 none 4 tr_X0_driftOn := by
  refine ct_of (by decide) ?_
  intro X Q as h hE C Z hG
  subst hE
  obtain ⟨p0, rfl, hh⟩ := hG
  refine ⟨[.ref p0], rfl, Nat.le_of_ble_eq_true rfl, ?_⟩
  exact bl_X0_driftOn_0 C Z p0 h hh
theorem cv_X0_driftOn (E : aw_F) : CV E yX0_driftOn cX0_driftOn 1 none 4 0 0 tr_X0_driftOn := ⟨ct_X0_driftOn E, by decide, kw_91, kw_92, kw_49, kw_90, by decide +kernel, _, _, rfl⟩
theorem dX0_run_0 : decode cX0_run 0 = .ok (.iload_n 1, 1) := by decide +kernel
theorem dX0_run_1 : decode cX0_run 1 = .ok (.istore_n 2, 1) := by decide +kernel
theorem dX0_run_2 : decode cX0_run 2 = .ok (.iconst 0, 1) := by decide +kernel
theorem dX0_run_3 : decode cX0_run 3 = .ok (.istore_n 3, 1) := by decide +kernel
theorem dX0_run_4 : decode cX0_run 4 = .ok (.iload_n 3, 1) := by decide +kernel
theorem dX0_run_5 : decode cX0_run 5 = .ok (.aload_n 0, 1) := by decide +kernel
theorem dX0_run_6 : decode cX0_run 6 = .ok (.getfield 22, 3) := by decide +kernel
theorem dX0_run_9 : decode cX0_run 9 = .ok (.if_icmp .ge 20, 3) := by decide +kernel
theorem dX0_run_12 : decode cX0_run 12 = .ok (.aload_n 0, 1) := by decide +kernel
theorem dX0_run_13 : decode cX0_run 13 = .ok (.getfield 15, 3) := by decide +kernel
theorem dX0_run_16 : decode cX0_run 16 = .ok (.iload_n 3, 1) := by decide +kernel
theorem dX0_run_17 : decode cX0_run 17 = .ok (.iaload, 1) := by decide +kernel
theorem dX0_run_18 : decode cX0_run 18 = .ok (.iload_n 2, 1) := by decide +kernel
theorem dX0_run_19 : decode cX0_run 19 = .ok (.invokestatic 43, 3) := by decide +kernel
theorem dX0_run_22 : decode cX0_run 22 = .ok (.istore_n 2, 1) := by decide +kernel
theorem dX0_run_23 : decode cX0_run 23 = .ok (.iinc 3 1, 3) := by decide +kernel
theorem dX0_run_26 : decode cX0_run 26 = .ok (.goto (-22), 3) := by decide +kernel
theorem dX0_run_29 : decode cX0_run 29 = .ok (.iload_n 2, 1) := by decide +kernel
theorem dX0_run_30 : decode cX0_run 30 = .ok (.ireturn, 1) := by decide +kernel
def sm_X0_run_4 (K4 : Nat → Int32 → Int32 → aw_H → Prop) (Q : aw_R) (p0 : Nat) (x2 : Int32) (x3 : Int32) (h : aw_H) : Prop :=
  sg_I h p0 0 1 fun v1 => if v1 ≤ x3 then (Q (some (.int x2)) h) else (sg_R h p0 0 2 fun q2 => sa_I h q2 x3 fun v3 => tr_X2_act [.int v3, .int x2] h fun r5 h4 => sr_I r5 fun v6 => K4 p0 v6 (x3 + 1) h4)
set_option maxRecDepth 100000 in
set_option maxHeartbeats 4000000 in
theorem bl_X0_run_4 {X : aw_X} {Q : aw_R} (C : aw_C X cX0_run RX0 4 3) (Z : aw_Z X cX0_run (some .int) Q) (p0 : Nat) (x2 : Int32) (x3 : Int32) (h : aw_H) (hh : sm_X0_run_4 (fun (p0 : Nat) (x2 : Int32) (x3 : Int32) (h : aw_H) => Sat X 4 [.ref p0, Value.null, .int x2, .int x3] [] h) Q p0 x2 x3 h) : Sat X 4 [.ref p0, Value.null, .int x2, .int x3] [] h := by
  unfold sm_X0_run_4 at hh
  refine ow_iload_n C dX0_run_4 rfl rfl ?_
  refine ow_aload_n C dX0_run_5 rfl rfl ?_
  refine ow_getI (ci := 0) (k := 1) (T := TX0) C rfl igX0 (by decide) kw_52 dX0_run_6 hh (fun v1 hh => ?_)
  refine ow_icmp_ge (tgt := 29) C dX0_run_9 (by decide) hh (fun hh => ?_) (fun hh => ?_)
  · skip
    refine ow_iload_n C dX0_run_29 rfl rfl ?_
    exact ow_iret Z dX0_run_30 trivial hh
  · skip
    refine ow_aload_n C dX0_run_12 rfl rfl ?_
    refine ow_getR (ci := 0) (k := 2) (T := TX0) C rfl igX0 (by decide) kw_58 dX0_run_13 hh (fun q2 hh => ?_)
    refine ow_iload_n C dX0_run_16 rfl rfl ?_
    refine ow_iaload C dX0_run_17 hh (fun v3 hh => ?_)
    refine ow_iload_n C dX0_run_18 rfl rfl ?_
    refine ow_callS C (cs_X2_act _) (Nat.le_of_ble_eq_true rfl) kw_74 dX0_run_19 (as := [.int v3, .int x2]) (st := []) rfl rfl (Nat.le_of_ble_eq_true rfl) hh (fun r5 h4 hq => ?_)
    obtain ⟨v6, rfl, hh⟩ := sr_I_e hq
    show Sat X 22 [.ref p0, Value.null, .int x2, .int x3] [.int v6] h4
    refine ow_istore_n (L' := [.ref p0, Value.null, .int v6, .int x3]) C dX0_run_22 rfl (by decide) rfl ?_
    refine ow_iinc (v := x3 + 1) (L' := [.ref p0, Value.null, .int v6, .int (x3 + 1)]) C dX0_run_23 rfl rfl (by decide) rfl ?_
    refine ow_goto (tgt := 4) C dX0_run_26 (by decide) ?_
    exact Sat.mask hh (mk_y (mk_n (mk_y (mk_y mk_0))))
def sm_X0_run_0 (K4 : Nat → Int32 → Int32 → aw_H → Prop) (Q : aw_R) (p0 : Nat) (x1 : Int32) (h : aw_H) : Prop :=
  K4 p0 x1 0 h
set_option maxRecDepth 100000 in
set_option maxHeartbeats 4000000 in
theorem bl_X0_run_0 {X : aw_X} {Q : aw_R} (C : aw_C X cX0_run RX0 4 3) (Z : aw_Z X cX0_run (some .int) Q) (p0 : Nat) (x1 : Int32) (h : aw_H) (hh : sm_X0_run_0 (fun (p0 : Nat) (x2 : Int32) (x3 : Int32) (h : aw_H) => Sat X 4 [.ref p0, Value.null, .int x2, .int x3] [] h) Q p0 x1 h) : Sat X 0 [.ref p0, .int x1, Value.null, Value.null] [] h := by
  unfold sm_X0_run_0 at hh
  refine ow_iload_n C dX0_run_0 rfl rfl ?_
  refine ow_istore_n (L' := [.ref p0, .int x1, .int x1, Value.null]) C dX0_run_1 rfl (by decide) rfl ?_
  refine ow_iconst (v := 0) C dX0_run_2 rfl ?_
  refine ow_istore_n (L' := [.ref p0, .int x1, .int x1, .int 0]) C dX0_run_3 rfl (by decide) rfl ?_
  exact Sat.mask hh (mk_y (mk_n (mk_y (mk_y mk_0))))
def tr_X0_run : aw_T := fun as h Q => ∃ (p0 : Nat) (x1 : Int32), as = [.ref p0, .int x1] ∧ (∀ (K4 : Nat → Int32 → Int32 → aw_H → Prop), (∀ (p0 : Nat) (x2 : Int32) (x3 : Int32) (h : aw_H), sm_X0_run_4 K4 Q p0 x2 x3 h → K4 p0 x2 x3 h) → sm_X0_run_0 K4 Q p0 x1 h)
theorem tq_X0_run {p0 : Nat} {x1 : Int32} {h : aw_H} {Q : aw_R} : tr_X0_run [.ref p0, .int x1] h Q ↔ (∀ (K4 : Nat → Int32 → Int32 → aw_H → Prop), (∀ (p0 : Nat) (x2 : Int32) (x3 : Int32) (h : aw_H), sm_X0_run_4 K4 Q p0 x2 x3 h → K4 p0 x2 x3 h) → sm_X0_run_0 K4 Q p0 x1 h) := by
  constructor
  · rintro ⟨_, _, as0, hh⟩
    cases as0
    exact hh
  · intro hh
    exact ⟨_, _, rfl, hh⟩
theorem ct_X0_run (E : aw_F) : CT E yX0_run cX0_run 4 (some .int) 3 tr_X0_run := by
  refine ct_of (by decide) ?_
  intro X Q as h hE C Z hG
  subst hE
  obtain ⟨p0, x1, rfl, hh⟩ := hG
  refine ⟨[.ref p0, .int x1, Value.null, Value.null], rfl, Nat.le_of_ble_eq_true rfl, ?_⟩
  exact bl_X0_run_0 C Z p0 x1 h (hh (fun (p0 : Nat) (x2 : Int32) (x3 : Int32) (h : aw_H) => Sat X 4 [.ref p0, Value.null, .int x2, .int x3] [] h) (fun p0 x2 x3 h hh => bl_X0_run_4 C Z p0 x2 x3 h hh))
theorem cv_X0_run (E : aw_F) : CV E yX0_run cX0_run 4 (some .int) 3 1 0 tr_X0_run := ⟨ct_X0_run E, by decide, kw_94, kw_95, kw_49, kw_93, by decide +kernel, _, _, rfl⟩
theorem dX0_runBack_0 : decode cX0_runBack 0 = .ok (.iload_n 1, 1) := by decide +kernel
theorem dX0_runBack_1 : decode cX0_runBack 1 = .ok (.istore_n 2, 1) := by decide +kernel
theorem dX0_runBack_2 : decode cX0_runBack 2 = .ok (.aload_n 0, 1) := by decide +kernel
theorem dX0_runBack_3 : decode cX0_runBack 3 = .ok (.getfield 22, 3) := by decide +kernel
theorem dX0_runBack_6 : decode cX0_runBack 6 = .ok (.iconst 1, 1) := by decide +kernel
theorem dX0_runBack_7 : decode cX0_runBack 7 = .ok (.isub, 1) := by decide +kernel
theorem dX0_runBack_8 : decode cX0_runBack 8 = .ok (.istore_n 3, 1) := by decide +kernel
theorem dX0_runBack_9 : decode cX0_runBack 9 = .ok (.iload_n 3, 1) := by decide +kernel
theorem dX0_runBack_10 : decode cX0_runBack 10 = .ok (.ifCond .lt 20, 3) := by decide +kernel
theorem dX0_runBack_13 : decode cX0_runBack 13 = .ok (.aload_n 0, 1) := by decide +kernel
theorem dX0_runBack_14 : decode cX0_runBack 14 = .ok (.getfield 15, 3) := by decide +kernel
theorem dX0_runBack_17 : decode cX0_runBack 17 = .ok (.iload_n 3, 1) := by decide +kernel
theorem dX0_runBack_18 : decode cX0_runBack 18 = .ok (.iaload, 1) := by decide +kernel
theorem dX0_runBack_19 : decode cX0_runBack 19 = .ok (.iload_n 2, 1) := by decide +kernel
theorem dX0_runBack_20 : decode cX0_runBack 20 = .ok (.invokestatic 43, 3) := by decide +kernel
theorem dX0_runBack_23 : decode cX0_runBack 23 = .ok (.istore_n 2, 1) := by decide +kernel
theorem dX0_runBack_24 : decode cX0_runBack 24 = .ok (.iinc 3 (-1), 3) := by decide +kernel
theorem dX0_runBack_27 : decode cX0_runBack 27 = .ok (.goto (-18), 3) := by decide +kernel
theorem dX0_runBack_30 : decode cX0_runBack 30 = .ok (.iload_n 2, 1) := by decide +kernel
theorem dX0_runBack_31 : decode cX0_runBack 31 = .ok (.ireturn, 1) := by decide +kernel
def sm_X0_runBack_9 (K9 : Nat → Int32 → Int32 → aw_H → Prop) (Q : aw_R) (p0 : Nat) (x2 : Int32) (x3 : Int32) (h : aw_H) : Prop :=
  if x3 < 0 then (Q (some (.int x2)) h) else (sg_R h p0 0 2 fun q1 => sa_I h q1 x3 fun v2 => tr_X2_act [.int v2, .int x2] h fun r4 h3 => sr_I r4 fun v5 => K9 p0 v5 (x3 + (-1)) h3)
set_option maxRecDepth 100000 in
set_option maxHeartbeats 4000000 in
theorem bl_X0_runBack_9 {X : aw_X} {Q : aw_R} (C : aw_C X cX0_runBack RX0 4 3) (Z : aw_Z X cX0_runBack (some .int) Q) (p0 : Nat) (x2 : Int32) (x3 : Int32) (h : aw_H) (hh : sm_X0_runBack_9 (fun (p0 : Nat) (x2 : Int32) (x3 : Int32) (h : aw_H) => Sat X 9 [.ref p0, Value.null, .int x2, .int x3] [] h) Q p0 x2 x3 h) : Sat X 9 [.ref p0, Value.null, .int x2, .int x3] [] h := by
  unfold sm_X0_runBack_9 at hh
  refine ow_iload_n C dX0_runBack_9 rfl rfl ?_
  refine ow_if_lt (tgt := 30) C dX0_runBack_10 (by decide) hh (fun hh => ?_) (fun hh => ?_)
  · skip
    refine ow_iload_n C dX0_runBack_30 rfl rfl ?_
    exact ow_iret Z dX0_runBack_31 trivial hh
  · skip
    refine ow_aload_n C dX0_runBack_13 rfl rfl ?_
    refine ow_getR (ci := 0) (k := 2) (T := TX0) C rfl igX0 (by decide) kw_58 dX0_runBack_14 hh (fun q1 hh => ?_)
    refine ow_iload_n C dX0_runBack_17 rfl rfl ?_
    refine ow_iaload C dX0_runBack_18 hh (fun v2 hh => ?_)
    refine ow_iload_n C dX0_runBack_19 rfl rfl ?_
    refine ow_callS C (cs_X2_act _) (Nat.le_of_ble_eq_true rfl) kw_74 dX0_runBack_20 (as := [.int v2, .int x2]) (st := []) rfl rfl (Nat.le_of_ble_eq_true rfl) hh (fun r4 h3 hq => ?_)
    obtain ⟨v5, rfl, hh⟩ := sr_I_e hq
    show Sat X 23 [.ref p0, Value.null, .int x2, .int x3] [.int v5] h3
    refine ow_istore_n (L' := [.ref p0, Value.null, .int v5, .int x3]) C dX0_runBack_23 rfl (by decide) rfl ?_
    refine ow_iinc (v := x3 + (-1)) (L' := [.ref p0, Value.null, .int v5, .int (x3 + (-1))]) C dX0_runBack_24 rfl rfl (by decide) rfl ?_
    refine ow_goto (tgt := 9) C dX0_runBack_27 (by decide) ?_
    exact Sat.mask hh (mk_y (mk_n (mk_y (mk_y mk_0))))
def sm_X0_runBack_0 (K9 : Nat → Int32 → Int32 → aw_H → Prop) (Q : aw_R) (p0 : Nat) (x1 : Int32) (h : aw_H) : Prop :=
  sg_I h p0 0 1 fun v1 => K9 p0 x1 (v1 - 1) h
set_option maxRecDepth 100000 in
set_option maxHeartbeats 4000000 in
theorem bl_X0_runBack_0 {X : aw_X} {Q : aw_R} (C : aw_C X cX0_runBack RX0 4 3) (Z : aw_Z X cX0_runBack (some .int) Q) (p0 : Nat) (x1 : Int32) (h : aw_H) (hh : sm_X0_runBack_0 (fun (p0 : Nat) (x2 : Int32) (x3 : Int32) (h : aw_H) => Sat X 9 [.ref p0, Value.null, .int x2, .int x3] [] h) Q p0 x1 h) : Sat X 0 [.ref p0, .int x1, Value.null, Value.null] [] h := by
  unfold sm_X0_runBack_0 at hh
  refine ow_iload_n C dX0_runBack_0 rfl rfl ?_
  refine ow_istore_n (L' := [.ref p0, .int x1, .int x1, Value.null]) C dX0_runBack_1 rfl (by decide) rfl ?_
  refine ow_aload_n C dX0_runBack_2 rfl rfl ?_
  refine ow_getI (ci := 0) (k := 1) (T := TX0) C rfl igX0 (by decide) kw_52 dX0_runBack_3 hh (fun v1 hh => ?_)
  refine ow_iconst (v := 1) C dX0_runBack_6 rfl ?_
  refine ow_isub C dX0_runBack_7 ?_
  refine ow_istore_n (L' := [.ref p0, .int x1, .int x1, .int (v1 - 1)]) C dX0_runBack_8 rfl (by decide) rfl ?_
  exact Sat.mask hh (mk_y (mk_n (mk_y (mk_y mk_0))))
def tr_X0_runBack : aw_T := fun as h Q => ∃ (p0 : Nat) (x1 : Int32), as = [.ref p0, .int x1] ∧ (∀ (K9 : Nat → Int32 → Int32 → aw_H → Prop), (∀ (p0 : Nat) (x2 : Int32) (x3 : Int32) (h : aw_H), sm_X0_runBack_9 K9 Q p0 x2 x3 h → K9 p0 x2 x3 h) → sm_X0_runBack_0 K9 Q p0 x1 h)
theorem tq_X0_runBack {p0 : Nat} {x1 : Int32} {h : aw_H} {Q : aw_R} : tr_X0_runBack [.ref p0, .int x1] h Q ↔ (∀ (K9 : Nat → Int32 → Int32 → aw_H → Prop), (∀ (p0 : Nat) (x2 : Int32) (x3 : Int32) (h : aw_H), sm_X0_runBack_9 K9 Q p0 x2 x3 h → K9 p0 x2 x3 h) → sm_X0_runBack_0 K9 Q p0 x1 h) := by
  constructor
  · rintro ⟨_, _, as0, hh⟩
    cases as0
    exact hh
  · intro hh
    exact ⟨_, _, rfl, hh⟩
theorem ct_X0_runBack (E : aw_F) : CT E yX0_runBack cX0_runBack 4 (some .int) 3 tr_X0_runBack := by
  refine ct_of (by decide) ?_
  intro X Q as h hE C Z hG
  subst hE
  obtain ⟨p0, x1, rfl, hh⟩ := hG
  refine ⟨[.ref p0, .int x1, Value.null, Value.null], rfl, Nat.le_of_ble_eq_true rfl, ?_⟩
  exact bl_X0_runBack_0 C Z p0 x1 h (hh (fun (p0 : Nat) (x2 : Int32) (x3 : Int32) (h : aw_H) => Sat X 9 [.ref p0, Value.null, .int x2, .int x3] [] h) (fun p0 x2 x3 h hh => bl_X0_runBack_9 C Z p0 x2 x3 h hh))
theorem cv_X0_runBack (E : aw_F) : CV E yX0_runBack cX0_runBack 4 (some .int) 3 1 0 tr_X0_runBack := ⟨ct_X0_runBack E, by decide, kw_97, kw_98, kw_49, kw_96, by decide +kernel, _, _, rfl⟩
theorem dX0_runWith_0 : decode cX0_runWith 0 = .ok (.iload_n 1, 1) := by decide +kernel
theorem dX0_runWith_1 : decode cX0_runWith 1 = .ok (.istore 4, 2) := by decide +kernel
theorem dX0_runWith_3 : decode cX0_runWith 3 = .ok (.iconst 0, 1) := by decide +kernel
theorem dX0_runWith_4 : decode cX0_runWith 4 = .ok (.istore 5, 2) := by decide +kernel
theorem dX0_runWith_6 : decode cX0_runWith 6 = .ok (.iload 5, 2) := by decide +kernel
theorem dX0_runWith_8 : decode cX0_runWith 8 = .ok (.aload_n 0, 1) := by decide +kernel
theorem dX0_runWith_9 : decode cX0_runWith 9 = .ok (.getfield 22, 3) := by decide +kernel
theorem dX0_runWith_12 : decode cX0_runWith 12 = .ok (.if_icmp .ge 33, 3) := by decide +kernel
theorem dX0_runWith_15 : decode cX0_runWith 15 = .ok (.iload 5, 2) := by decide +kernel
theorem dX0_runWith_17 : decode cX0_runWith 17 = .ok (.iload_n 2, 1) := by decide +kernel
theorem dX0_runWith_18 : decode cX0_runWith 18 = .ok (.if_icmp .ne 7, 3) := by decide +kernel
theorem dX0_runWith_21 : decode cX0_runWith 21 = .ok (.iload_n 3, 1) := by decide +kernel
theorem dX0_runWith_22 : decode cX0_runWith 22 = .ok (.goto 10, 3) := by decide +kernel
theorem dX0_runWith_25 : decode cX0_runWith 25 = .ok (.aload_n 0, 1) := by decide +kernel
theorem dX0_runWith_26 : decode cX0_runWith 26 = .ok (.getfield 15, 3) := by decide +kernel
theorem dX0_runWith_29 : decode cX0_runWith 29 = .ok (.iload 5, 2) := by decide +kernel
theorem dX0_runWith_31 : decode cX0_runWith 31 = .ok (.iaload, 1) := by decide +kernel
theorem dX0_runWith_32 : decode cX0_runWith 32 = .ok (.iload 4, 2) := by decide +kernel
theorem dX0_runWith_34 : decode cX0_runWith 34 = .ok (.invokestatic 43, 3) := by decide +kernel
theorem dX0_runWith_37 : decode cX0_runWith 37 = .ok (.istore 4, 2) := by decide +kernel
theorem dX0_runWith_39 : decode cX0_runWith 39 = .ok (.iinc 5 1, 3) := by decide +kernel
theorem dX0_runWith_42 : decode cX0_runWith 42 = .ok (.goto (-36), 3) := by decide +kernel
theorem dX0_runWith_45 : decode cX0_runWith 45 = .ok (.iload 4, 2) := by decide +kernel
theorem dX0_runWith_47 : decode cX0_runWith 47 = .ok (.ireturn, 1) := by decide +kernel
def sm_X0_runWith_6 (K6 : Nat → Int32 → Int32 → Int32 → Int32 → aw_H → Prop) (Q : aw_R) (p0 : Nat) (x2 : Int32) (x3 : Int32) (x4 : Int32) (x5 : Int32) (h : aw_H) : Prop :=
  sg_I h p0 0 1 fun v1 => if v1 ≤ x5 then (Q (some (.int x4)) h) else (if ¬ x5 = x2 then (sg_R h p0 0 2 fun q2 => sa_I h q2 x5 fun v3 => tr_X2_act [.int v3, .int x4] h fun r5 h4 => sr_I r5 fun v6 => K6 p0 x2 x3 v6 (x5 + 1) h4) else (tr_X2_act [.int x3, .int x4] h fun r8 h7 => sr_I r8 fun v9 => K6 p0 x2 x3 v9 (x5 + 1) h7))
set_option maxRecDepth 100000 in
set_option maxHeartbeats 4000000 in
theorem bl_X0_runWith_6 {X : aw_X} {Q : aw_R} (C : aw_C X cX0_runWith RX0 6 3) (Z : aw_Z X cX0_runWith (some .int) Q) (p0 : Nat) (x2 : Int32) (x3 : Int32) (x4 : Int32) (x5 : Int32) (h : aw_H) (hh : sm_X0_runWith_6 (fun (p0 : Nat) (x2 : Int32) (x3 : Int32) (x4 : Int32) (x5 : Int32) (h : aw_H) => Sat X 6 [.ref p0, Value.null, .int x2, .int x3, .int x4, .int x5] [] h) Q p0 x2 x3 x4 x5 h) : Sat X 6 [.ref p0, Value.null, .int x2, .int x3, .int x4, .int x5] [] h := by
  unfold sm_X0_runWith_6 at hh
  refine ow_iload C dX0_runWith_6 rfl ?_
  refine ow_aload_n C dX0_runWith_8 rfl rfl ?_
  refine ow_getI (ci := 0) (k := 1) (T := TX0) C rfl igX0 (by decide) kw_52 dX0_runWith_9 hh (fun v1 hh => ?_)
  refine ow_icmp_ge (tgt := 45) C dX0_runWith_12 (by decide) hh (fun hh => ?_) (fun hh => ?_)
  · skip
    refine ow_iload C dX0_runWith_45 rfl ?_
    exact ow_iret Z dX0_runWith_47 trivial hh
  · skip
    refine ow_iload C dX0_runWith_15 rfl ?_
    refine ow_iload_n C dX0_runWith_17 rfl rfl ?_
    refine ow_icmp_ne (tgt := 25) C dX0_runWith_18 (by decide) hh (fun hh => ?_) (fun hh => ?_)
    · skip
      refine ow_aload_n C dX0_runWith_25 rfl rfl ?_
      refine ow_getR (ci := 0) (k := 2) (T := TX0) C rfl igX0 (by decide) kw_58 dX0_runWith_26 hh (fun q2 hh => ?_)
      refine ow_iload C dX0_runWith_29 rfl ?_
      refine ow_iaload C dX0_runWith_31 hh (fun v3 hh => ?_)
      refine ow_iload C dX0_runWith_32 rfl ?_
      refine ow_callS C (cs_X2_act _) (Nat.le_of_ble_eq_true rfl) kw_74 dX0_runWith_34 (as := [.int v3, .int x4]) (st := []) rfl rfl (Nat.le_of_ble_eq_true rfl) hh (fun r5 h4 hq => ?_)
      obtain ⟨v6, rfl, hh⟩ := sr_I_e hq
      show Sat X 37 [.ref p0, Value.null, .int x2, .int x3, .int x4, .int x5] [.int v6] h4
      refine ow_istore (L' := [.ref p0, Value.null, .int x2, .int x3, .int v6, .int x5]) C dX0_runWith_37 (by decide) rfl ?_
      refine ow_iinc (v := x5 + 1) (L' := [.ref p0, Value.null, .int x2, .int x3, .int v6, .int (x5 + 1)]) C dX0_runWith_39 rfl rfl (by decide) rfl ?_
      refine ow_goto (tgt := 6) C dX0_runWith_42 (by decide) ?_
      exact Sat.mask hh (mk_y (mk_n (mk_y (mk_y (mk_y (mk_y mk_0))))))
    · skip
      refine ow_iload_n C dX0_runWith_21 rfl rfl ?_
      refine ow_goto (tgt := 32) C dX0_runWith_22 (by decide) ?_
      refine ow_iload C dX0_runWith_32 rfl ?_
      refine ow_callS C (cs_X2_act _) (Nat.le_of_ble_eq_true rfl) kw_74 dX0_runWith_34 (as := [.int x3, .int x4]) (st := []) rfl rfl (Nat.le_of_ble_eq_true rfl) hh (fun r8 h7 hq => ?_)
      obtain ⟨v9, rfl, hh⟩ := sr_I_e hq
      show Sat X 37 [.ref p0, Value.null, .int x2, .int x3, .int x4, .int x5] [.int v9] h7
      refine ow_istore (L' := [.ref p0, Value.null, .int x2, .int x3, .int v9, .int x5]) C dX0_runWith_37 (by decide) rfl ?_
      refine ow_iinc (v := x5 + 1) (L' := [.ref p0, Value.null, .int x2, .int x3, .int v9, .int (x5 + 1)]) C dX0_runWith_39 rfl rfl (by decide) rfl ?_
      refine ow_goto (tgt := 6) C dX0_runWith_42 (by decide) ?_
      exact Sat.mask hh (mk_y (mk_n (mk_y (mk_y (mk_y (mk_y mk_0))))))
def sm_X0_runWith_0 (K6 : Nat → Int32 → Int32 → Int32 → Int32 → aw_H → Prop) (Q : aw_R) (p0 : Nat) (x1 : Int32) (x2 : Int32) (x3 : Int32) (h : aw_H) : Prop :=
  K6 p0 x2 x3 x1 0 h
set_option maxRecDepth 100000 in
set_option maxHeartbeats 4000000 in
theorem bl_X0_runWith_0 {X : aw_X} {Q : aw_R} (C : aw_C X cX0_runWith RX0 6 3) (Z : aw_Z X cX0_runWith (some .int) Q) (p0 : Nat) (x1 : Int32) (x2 : Int32) (x3 : Int32) (h : aw_H) (hh : sm_X0_runWith_0 (fun (p0 : Nat) (x2 : Int32) (x3 : Int32) (x4 : Int32) (x5 : Int32) (h : aw_H) => Sat X 6 [.ref p0, Value.null, .int x2, .int x3, .int x4, .int x5] [] h) Q p0 x1 x2 x3 h) : Sat X 0 [.ref p0, .int x1, .int x2, .int x3, Value.null, Value.null] [] h := by
  unfold sm_X0_runWith_0 at hh
  refine ow_iload_n C dX0_runWith_0 rfl rfl ?_
  refine ow_istore (L' := [.ref p0, .int x1, .int x2, .int x3, .int x1, Value.null]) C dX0_runWith_1 (by decide) rfl ?_
  refine ow_iconst (v := 0) C dX0_runWith_3 rfl ?_
  refine ow_istore (L' := [.ref p0, .int x1, .int x2, .int x3, .int x1, .int 0]) C dX0_runWith_4 (by decide) rfl ?_
  exact Sat.mask hh (mk_y (mk_n (mk_y (mk_y (mk_y (mk_y mk_0))))))
def tr_X0_runWith : aw_T := fun as h Q => ∃ (p0 : Nat) (x1 : Int32) (x2 : Int32) (x3 : Int32), as = [.ref p0, .int x1, .int x2, .int x3] ∧ (∀ (K6 : Nat → Int32 → Int32 → Int32 → Int32 → aw_H → Prop), (∀ (p0 : Nat) (x2 : Int32) (x3 : Int32) (x4 : Int32) (x5 : Int32) (h : aw_H), sm_X0_runWith_6 K6 Q p0 x2 x3 x4 x5 h → K6 p0 x2 x3 x4 x5 h) → sm_X0_runWith_0 K6 Q p0 x1 x2 x3 h)
theorem tq_X0_runWith {p0 : Nat} {x1 : Int32} {x2 : Int32} {x3 : Int32} {h : aw_H} {Q : aw_R} : tr_X0_runWith [.ref p0, .int x1, .int x2, .int x3] h Q ↔ (∀ (K6 : Nat → Int32 → Int32 → Int32 → Int32 → aw_H → Prop), (∀ (p0 : Nat) (x2 : Int32) (x3 : Int32) (x4 : Int32) (x5 : Int32) (h : aw_H), sm_X0_runWith_6 K6 Q p0 x2 x3 x4 x5 h → K6 p0 x2 x3 x4 x5 h) → sm_X0_runWith_0 K6 Q p0 x1 x2 x3 h) := by
  constructor
  · rintro ⟨_, _, _, _, as0, hh⟩
    cases as0
    exact hh
  · intro hh
    exact ⟨_, _, _, _, rfl, hh⟩
theorem ct_X0_runWith (E : aw_F) : CT E yX0_runWith cX0_runWith 6 (some .int) 3 tr_X0_runWith := by
  refine ct_of (by decide) ?_
  intro X Q as h hE C Z hG
  subst hE
  obtain ⟨p0, x1, x2, x3, rfl, hh⟩ := hG
  refine ⟨[.ref p0, .int x1, .int x2, .int x3, Value.null, Value.null], rfl, Nat.le_of_ble_eq_true rfl, ?_⟩
  exact bl_X0_runWith_0 C Z p0 x1 x2 x3 h (hh (fun (p0 : Nat) (x2 : Int32) (x3 : Int32) (x4 : Int32) (x5 : Int32) (h : aw_H) => Sat X 6 [.ref p0, Value.null, .int x2, .int x3, .int x4, .int x5] [] h) (fun p0 x2 x3 x4 x5 h hh => bl_X0_runWith_6 C Z p0 x2 x3 x4 x5 h hh))
theorem cv_X0_runWith (E : aw_F) : CV E yX0_runWith cX0_runWith 6 (some .int) 3 3 0 tr_X0_runWith := ⟨ct_X0_runWith E, by decide, kw_100, kw_101, kw_49, kw_99, by decide +kernel, _, _, rfl⟩
