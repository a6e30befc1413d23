theorem dX7_in_0 : decode cX7_in 0 = .ok (.iload_n 0, 1) := by decide +kernel
theorem dX7_in_1 : decode cX7_in 1 = .ok (.iload_n 1, 1) := by decide +kernel
theorem dX7_in_2 : decode cX7_in 2 = .ok (.if_icmp .lt 12, 3) := by decide +kernel
theorem dX7_in_5 : decode cX7_in 5 = .ok (.iload_n 0, 1) := by decide +kernel
theorem dX7_in_6 : decode cX7_in 6 = .ok (.iload_n 2, 1) := by decide +kernel
theorem dX7_in_7 : decode cX7_in 7 = .ok (.if_icmp .gt 7, 3) := by decide +kernel
theorem dX7_in_10 : decode cX7_in 10 = .ok (.iconst 1, 1) := by decide +kernel
theorem dX7_in_11 : decode cX7_in 11 = .ok (.goto 4, 3) := by decide +kernel
theorem dX7_in_14 : decode cX7_in 14 = .ok (.iconst 0, 1) := by decide +kernel
theorem dX7_in_15 : decode cX7_in 15 = .ok (.ireturn, 1) := by decide +kernel
def sm_X7_in_0  (Q : aw_R) (x0 : Int32) (x1 : Int32) (x2 : Int32) (h : aw_H) : Prop :=
  if x0 < x1 then (Q (some (.int 0)) h) else (if x2 < x0 then (Q (some (.int 0)) h) else (Q (some (.int 1)) h))
set_option maxRecDepth 100000 in
set_option maxHeartbeats 4000000 in
theorem bl_X7_in_0 {X : aw_X} {Q : aw_R} (C : aw_C X cX7_in RX7 3 0) (Z : aw_Z X cX7_in (some .boolean) Q) (x0 : Int32) (x1 : Int32) (x2 : Int32) (h : aw_H) (hh : sm_X7_in_0  Q x0 x1 x2 h) : Sat X 0 [.int x0, .int x1, .int x2] [] h := by
  unfold sm_X7_in_0 at hh
  refine ow_iload_n C dX7_in_0 rfl rfl ?_
  refine ow_iload_n C dX7_in_1 rfl rfl ?_
  refine ow_icmp_lt (tgt := 14) C dX7_in_2 (by decide) hh (fun hh => ?_) (fun hh => ?_)
  · skip
    refine ow_iconst (v := 0) C dX7_in_14 rfl ?_
    exact ow_iret Z dX7_in_15 (Or.inl rfl) hh
  · skip
    refine ow_iload_n C dX7_in_5 rfl rfl ?_
    refine ow_iload_n C dX7_in_6 rfl rfl ?_
    refine ow_icmp_gt (tgt := 14) C dX7_in_7 (by decide) hh (fun hh => ?_) (fun hh => ?_)
    · skip
      refine ow_iconst (v := 0) C dX7_in_14 rfl ?_
      exact ow_iret Z dX7_in_15 (Or.inl rfl) hh
    · skip
      refine ow_iconst (v := 1) C dX7_in_10 rfl ?_
      refine ow_goto (tgt := 15) C dX7_in_11 (by decide) ?_
      exact ow_iret Z dX7_in_15 (Or.inr rfl) hh
def tr_X7_in : aw_T := fun as h Q => ∃ (x0 : Int32) (x1 : Int32) (x2 : Int32), as = [.int x0, .int x1, .int x2] ∧ (sm_X7_in_0  Q x0 x1 x2 h)
theorem tq_X7_in {x0 : Int32} {x1 : Int32} {x2 : Int32} {h : aw_H} {Q : aw_R} : tr_X7_in [.int x0, .int x1, .int x2] h Q ↔ (sm_X7_in_0  Q x0 x1 x2 h) := by
  constructor
  · rintro ⟨_, _, _, as0, hh⟩
    cases as0
    exact hh
  · intro hh
    exact ⟨_, _, _, rfl, hh⟩
theorem ct_X7_in (E : aw_F) : CT E yX7_in cX7_in 3 (some .boolean) 0 tr_X7_in := by
  refine ct_of (by decide) ?_
  intro X Q as h hE C Z hG
  subst hE
  obtain ⟨x0, x1, x2, rfl, hh⟩ := hG
  refine ⟨[.int x0, .int x1, .int x2], rfl, Nat.le_of_ble_eq_true rfl, ?_⟩
  exact bl_X7_in_0 C Z x0 x1 x2 h hh
theorem cs_X7_in (E : aw_F) : CS E yX7_in cX7_in 3 (some .boolean) 0 3 tr_X7_in := ⟨ct_X7_in E, by decide, kw_528, kw_527, kw_526, by decide +kernel⟩
theorem dX7_has_0 : decode cX7_has 0 = .ok (.iload_n 0, 1) := by decide +kernel
theorem dX7_has_1 : decode cX7_has 1 = .ok (.iload_n 1, 1) := by decide +kernel
theorem dX7_has_2 : decode cX7_has 2 = .ok (.ishr, 1) := by decide +kernel
theorem dX7_has_3 : decode cX7_has 3 = .ok (.iconst 1, 1) := by decide +kernel
theorem dX7_has_4 : decode cX7_has 4 = .ok (.iand, 1) := by decide +kernel
theorem dX7_has_5 : decode cX7_has 5 = .ok (.iconst 1, 1) := by decide +kernel
theorem dX7_has_6 : decode cX7_has 6 = .ok (.if_icmp .ne 7, 3) := by decide +kernel
theorem dX7_has_9 : decode cX7_has 9 = .ok (.iconst 1, 1) := by decide +kernel
theorem dX7_has_10 : decode cX7_has 10 = .ok (.goto 4, 3) := by decide +kernel
theorem dX7_has_13 : decode cX7_has 13 = .ok (.iconst 0, 1) := by decide +kernel
theorem dX7_has_14 : decode cX7_has 14 = .ok (.ireturn, 1) := by decide +kernel
def sm_X7_has_0  (Q : aw_R) (x0 : Int32) (x1 : Int32) (h : aw_H) : Prop :=
  if ¬ ((x0 >>> (x1 &&& 31)) &&& 1) = 1 then (Q (some (.int 0)) h) else (Q (some (.int 1)) h)
set_option maxRecDepth 100000 in
set_option maxHeartbeats 4000000 in
theorem bl_X7_has_0 {X : aw_X} {Q : aw_R} (C : aw_C X cX7_has RX7 2 0) (Z : aw_Z X cX7_has (some .boolean) Q) (x0 : Int32) (x1 : Int32) (h : aw_H) (hh : sm_X7_has_0  Q x0 x1 h) : Sat X 0 [.int x0, .int x1] [] h := by
  unfold sm_X7_has_0 at hh
  refine ow_iload_n C dX7_has_0 rfl rfl ?_
  refine ow_iload_n C dX7_has_1 rfl rfl ?_
  refine ow_ishr C dX7_has_2 ?_
  refine ow_iconst (v := 1) C dX7_has_3 rfl ?_
  refine ow_iand C dX7_has_4 ?_
  refine ow_iconst (v := 1) C dX7_has_5 rfl ?_
  refine ow_icmp_ne (tgt := 13) C dX7_has_6 (by decide) hh (fun hh => ?_) (fun hh => ?_)
  · skip
    refine ow_iconst (v := 0) C dX7_has_13 rfl ?_
    exact ow_iret Z dX7_has_14 (Or.inl rfl) hh
  · skip
    refine ow_iconst (v := 1) C dX7_has_9 rfl ?_
    refine ow_goto (tgt := 14) C dX7_has_10 (by decide) ?_
    exact ow_iret Z dX7_has_14 (Or.inr rfl) hh
def tr_X7_has : aw_T := fun as h Q => ∃ (x0 : Int32) (x1 : Int32), as = [.int x0, .int x1] ∧ (sm_X7_has_0  Q x0 x1 h)
theorem tq_X7_has {x0 : Int32} {x1 : Int32} {h : aw_H} {Q : aw_R} : tr_X7_has [.int x0, .int x1] h Q ↔ (sm_X7_has_0  Q x0 x1 h) := by
  constructor
  · rintro ⟨_, _, as0, hh⟩
    cases as0
    exact hh
  · intro hh
    exact ⟨_, _, rfl, hh⟩
theorem ct_X7_has (E : aw_F) : CT E yX7_has cX7_has 2 (some .boolean) 0 tr_X7_has := by
  refine ct_of (by decide) ?_
  intro X Q as h hE C Z hG
  subst hE
  obtain ⟨x0, x1, rfl, hh⟩ := hG
  refine ⟨[.int x0, .int x1], rfl, Nat.le_of_ble_eq_true rfl, ?_⟩
  exact bl_X7_has_0 C Z x0 x1 h hh
theorem cs_X7_has (E : aw_F) : CS E yX7_has cX7_has 2 (some .boolean) 0 2 tr_X7_has := ⟨ct_X7_has E, by decide, kw_530, kw_527, kw_529, by decide +kernel⟩
theorem dX7_bits_0 : decode cX7_bits 0 = .ok (.iconst 0, 1) := by decide +kernel
theorem dX7_bits_1 : decode cX7_bits 1 = .ok (.istore_n 1, 1) := by decide +kernel
theorem dX7_bits_2 : decode cX7_bits 2 = .ok (.iconst 0, 1) := by decide +kernel
theorem dX7_bits_3 : decode cX7_bits 3 = .ok (.istore_n 2, 1) := by decide +kernel
theorem dX7_bits_4 : decode cX7_bits 4 = .ok (.iload_n 2, 1) := by decide +kernel
theorem dX7_bits_5 : decode cX7_bits 5 = .ok (.bipush 16, 2) := by decide +kernel
theorem dX7_bits_7 : decode cX7_bits 7 = .ok (.if_icmp .ge 17, 3) := by decide +kernel
theorem dX7_bits_10 : decode cX7_bits 10 = .ok (.iload_n 1, 1) := by decide +kernel
theorem dX7_bits_11 : decode cX7_bits 11 = .ok (.iload_n 0, 1) := by decide +kernel
theorem dX7_bits_12 : decode cX7_bits 12 = .ok (.iload_n 2, 1) := by decide +kernel
theorem dX7_bits_13 : decode cX7_bits 13 = .ok (.ishr, 1) := by decide +kernel
theorem dX7_bits_14 : decode cX7_bits 14 = .ok (.iconst 1, 1) := by decide +kernel
theorem dX7_bits_15 : decode cX7_bits 15 = .ok (.iand, 1) := by decide +kernel
theorem dX7_bits_16 : decode cX7_bits 16 = .ok (.iadd, 1) := by decide +kernel
theorem dX7_bits_17 : decode cX7_bits 17 = .ok (.istore_n 1, 1) := by decide +kernel
theorem dX7_bits_18 : decode cX7_bits 18 = .ok (.iinc 2 1, 3) := by decide +kernel
theorem dX7_bits_21 : decode cX7_bits 21 = .ok (.goto (-17), 3) := by decide +kernel
theorem dX7_bits_24 : decode cX7_bits 24 = .ok (.iload_n 1, 1) := by decide +kernel
theorem dX7_bits_25 : decode cX7_bits 25 = .ok (.ireturn, 1) := by decide +kernel
def sm_X7_bits_4 (K4 : Int32 → Int32 → Int32 → aw_H → Prop) (Q : aw_R) (x0 : Int32) (x1 : Int32) (x2 : Int32) (h : aw_H) : Prop :=
  if 16 ≤ x2 then (Q (some (.int x1)) h) else (K4 x0 (x1 + ((x0 >>> (x2 &&& 31)) &&& 1)) (x2 + 1) h)
set_option maxRecDepth 100000 in
set_option maxHeartbeats 4000000 in
theorem bl_X7_bits_4 {X : aw_X} {Q : aw_R} (C : aw_C X cX7_bits RX7 3 0) (Z : aw_Z X cX7_bits (some .int) Q) (x0 : Int32) (x1 : Int32) (x2 : Int32) (h : aw_H) (hh : sm_X7_bits_4 (fun (x0 : Int32) (x1 : Int32) (x2 : Int32) (h : aw_H) => Sat X 4 [.int x0, .int x1, .int x2] [] h) Q x0 x1 x2 h) : Sat X 4 [.int x0, .int x1, .int x2] [] h := by
  unfold sm_X7_bits_4 at hh
  refine ow_iload_n C dX7_bits_4 rfl rfl ?_
  refine ow_bipush (v := 16) C dX7_bits_5 rfl ?_
  refine ow_icmp_ge (tgt := 24) C dX7_bits_7 (by decide) hh (fun hh => ?_) (fun hh => ?_)
  · skip
    refine ow_iload_n C dX7_bits_24 rfl rfl ?_
    exact ow_iret Z dX7_bits_25 trivial hh
  · skip
    refine ow_iload_n C dX7_bits_10 rfl rfl ?_
    refine ow_iload_n C dX7_bits_11 rfl rfl ?_
    refine ow_iload_n C dX7_bits_12 rfl rfl ?_
    refine ow_ishr C dX7_bits_13 ?_
    refine ow_iconst (v := 1) C dX7_bits_14 rfl ?_
    refine ow_iand C dX7_bits_15 ?_
    refine ow_iadd C dX7_bits_16 ?_
    refine ow_istore_n (L' := [.int x0, .int (x1 + ((x0 >>> (x2 &&& 31)) &&& 1)), .int x2]) C dX7_bits_17 rfl (by decide) rfl ?_
    refine ow_iinc (v := x2 + 1) (L' := [.int x0, .int (x1 + ((x0 >>> (x2 &&& 31)) &&& 1)), .int (x2 + 1)]) C dX7_bits_18 rfl rfl (by decide) rfl ?_
    refine ow_goto (tgt := 4) C dX7_bits_21 (by decide) ?_
    exact Sat.mask hh (mk_y (mk_y (mk_y mk_0)))
def sm_X7_bits_0 (K4 : Int32 → Int32 → Int32 → aw_H → Prop) (Q : aw_R) (x0 : Int32) (h : aw_H) : Prop :=
  K4 x0 0 0 h
set_option maxRecDepth 100000 in
set_option maxHeartbeats 4000000 in
theorem bl_X7_bits_0 {X : aw_X} {Q : aw_R} (C : aw_C X cX7_bits RX7 3 0) (Z : aw_Z X cX7_bits (some .int) Q) (x0 : Int32) (h : aw_H) (hh : sm_X7_bits_0 (fun (x0 : Int32) (x1 : Int32) (x2 : Int32) (h : aw_H) => Sat X 4 [.int x0, .int x1, .int x2] [] h) Q x0 h) : Sat X 0 [.int x0, Value.null, Value.null] [] h := by
  unfold sm_X7_bits_0 at hh
  refine ow_iconst (v := 0) C dX7_bits_0 rfl ?_
  refine ow_istore_n (L' := [.int x0, .int 0, Value.null]) C dX7_bits_1 rfl (by decide) rfl ?_
  refine ow_iconst (v := 0) C dX7_bits_2 rfl ?_
  refine ow_istore_n (L' := [.int x0, .int 0, .int 0]) C dX7_bits_3 rfl (by decide) rfl ?_
  exact Sat.mask hh (mk_y (mk_y (mk_y mk_0)))
def tr_X7_bits : aw_T := fun as h Q => ∃ (x0 : Int32), as = [.int x0] ∧ (∀ (K4 : Int32 → Int32 → Int32 → aw_H → Prop), (∀ (x0 : Int32) (x1 : Int32) (x2 : Int32) (h : aw_H), sm_X7_bits_4 K4 Q x0 x1 x2 h → K4 x0 x1 x2 h) → sm_X7_bits_0 K4 Q x0 h)
theorem tq_X7_bits {x0 : Int32} {h : aw_H} {Q : aw_R} : tr_X7_bits [.int x0] h Q ↔ (∀ (K4 : Int32 → Int32 → Int32 → aw_H → Prop), (∀ (x0 : Int32) (x1 : Int32) (x2 : Int32) (h : aw_H), sm_X7_bits_4 K4 Q x0 x1 x2 h → K4 x0 x1 x2 h) → sm_X7_bits_0 K4 Q x0 h) := by
  constructor
  · rintro ⟨_, as0, hh⟩
    cases as0
    exact hh
  · intro hh
    exact ⟨_, rfl, hh⟩
theorem ct_X7_bits (E : aw_F) : CT E yX7_bits cX7_bits 3 (some .int) 0 tr_X7_bits := by
  refine ct_of (by decide) ?_
  intro X Q as h hE C Z hG
  subst hE
  obtain ⟨x0, rfl, hh⟩ := hG
  refine ⟨[.int x0, Value.null, Value.null], rfl, Nat.le_of_ble_eq_true rfl, ?_⟩
  exact bl_X7_bits_0 C Z x0 h (hh (fun (x0 : Int32) (x1 : Int32) (x2 : Int32) (h : aw_H) => Sat X 4 [.int x0, .int x1, .int x2] [] h) (fun x0 x1 x2 h hh => bl_X7_bits_4 C Z x0 x1 x2 h hh))
theorem cs_X7_bits (E : aw_F) : CS E yX7_bits cX7_bits 3 (some .int) 0 1 tr_X7_bits := ⟨ct_X7_bits E, by decide, kw_532, kw_527, kw_531, by decide +kernel⟩
theorem dX7_copyRow_0 : decode cX7_copyRow 0 = .ok (.iconst 0, 1) := by decide +kernel
theorem dX7_copyRow_1 : decode cX7_copyRow 1 = .ok (.istore 4, 2) := by decide +kernel
theorem dX7_copyRow_3 : decode cX7_copyRow 3 = .ok (.iload 4, 2) := by decide +kernel
theorem dX7_copyRow_5 : decode cX7_copyRow 5 = .ok (.iload_n 3, 1) := by decide +kernel
theorem dX7_copyRow_6 : decode cX7_copyRow 6 = .ok (.if_icmp .ge 27, 3) := by decide +kernel
theorem dX7_copyRow_9 : decode cX7_copyRow 9 = .ok (.aload_n 0, 1) := by decide +kernel
theorem dX7_copyRow_10 : decode cX7_copyRow 10 = .ok (.getfield 7, 3) := by decide +kernel
theorem dX7_copyRow_13 : decode cX7_copyRow 13 = .ok (.iload_n 2, 1) := by decide +kernel
theorem dX7_copyRow_14 : decode cX7_copyRow 14 = .ok (.iload 4, 2) := by decide +kernel
theorem dX7_copyRow_16 : decode cX7_copyRow 16 = .ok (.iadd, 1) := by decide +kernel
theorem dX7_copyRow_17 : decode cX7_copyRow 17 = .ok (.aload_n 0, 1) := by decide +kernel
theorem dX7_copyRow_18 : decode cX7_copyRow 18 = .ok (.getfield 7, 3) := by decide +kernel
theorem dX7_copyRow_21 : decode cX7_copyRow 21 = .ok (.iload_n 1, 1) := by decide +kernel
theorem dX7_copyRow_22 : decode cX7_copyRow 22 = .ok (.iload 4, 2) := by decide +kernel
theorem dX7_copyRow_24 : decode cX7_copyRow 24 = .ok (.iadd, 1) := by decide +kernel
theorem dX7_copyRow_25 : decode cX7_copyRow 25 = .ok (.iaload, 1) := by decide +kernel
theorem dX7_copyRow_26 : decode cX7_copyRow 26 = .ok (.iastore, 1) := by decide +kernel
theorem dX7_copyRow_27 : decode cX7_copyRow 27 = .ok (.iinc 4 1, 3) := by decide +kernel
theorem dX7_copyRow_30 : decode cX7_copyRow 30 = .ok (.goto (-27), 3) := by decide +kernel
theorem dX7_copyRow_33 : decode cX7_copyRow 33 = .ok (.return_, 1) := by decide +kernel
def sm_X7_copyRow_3 (K3 : Nat → Int32 → Int32 → Int32 → Int32 → aw_H → Prop) (Q : aw_R) (p0 : Nat) (x1 : Int32) (x2 : Int32) (x3 : Int32) (x4 : Int32) (h : aw_H) : Prop :=
  if x3 ≤ x4 then (Q none h) else (sg_R h p0 6 0 fun q1 => sg_R h p0 6 0 fun q2 => sa_I h q2 (x1 + x4) fun v3 => ss_I h q1 (x2 + x4) v3 fun h4 => K3 p0 x1 x2 x3 (x4 + 1) h4)
set_option maxRecDepth 100000 in
set_option maxHeartbeats 4000000 in
theorem bl_X7_copyRow_3 {X : aw_X} {Q : aw_R} (C : aw_C X cX7_copyRow RX7 5 0) (Z : aw_Z X cX7_copyRow none Q) (p0 : Nat) (x1 : Int32) (x2 : Int32) (x3 : Int32) (x4 : Int32) (h : aw_H) (hh : sm_X7_copyRow_3 (fun (p0 : Nat) (x1 : Int32) (x2 : Int32) (x3 : Int32) (x4 : Int32) (h : aw_H) => Sat X 3 [.ref p0, .int x1, .int x2, .int x3, .int x4] [] h) Q p0 x1 x2 x3 x4 h) : Sat X 3 [.ref p0, .int x1, .int x2, .int x3, .int x4] [] h := by
  unfold sm_X7_copyRow_3 at hh
  refine ow_iload C dX7_copyRow_3 rfl ?_
  refine ow_iload_n C dX7_copyRow_5 rfl rfl ?_
  refine ow_icmp_ge (tgt := 33) C dX7_copyRow_6 (by decide) hh (fun hh => ?_) (fun hh => ?_)
  · skip
    exact ow_vret Z dX7_copyRow_33 trivial hh
  · skip
    refine ow_aload_n C dX7_copyRow_9 rfl rfl ?_
    refine ow_getR (ci := 6) (k := 0) (T := TX7) C rfl igX7 (by decide) kw_533 dX7_copyRow_10 hh (fun q1 hh => ?_)
    refine ow_iload_n C dX7_copyRow_13 rfl rfl ?_
    refine ow_iload C dX7_copyRow_14 rfl ?_
    refine ow_iadd C dX7_copyRow_16 ?_
    refine ow_aload_n C dX7_copyRow_17 rfl rfl ?_
    refine ow_getR (ci := 6) (k := 0) (T := TX7) C rfl igX7 (by decide) kw_533 dX7_copyRow_18 hh (fun q2 hh => ?_)
    refine ow_iload_n C dX7_copyRow_21 rfl rfl ?_
    refine ow_iload C dX7_copyRow_22 rfl ?_
    refine ow_iadd C dX7_copyRow_24 ?_
    refine ow_iaload C dX7_copyRow_25 hh (fun v3 hh => ?_)
    refine ow_iastore C dX7_copyRow_26 hh (fun h4 hh => ?_)
    refine ow_iinc (v := x4 + 1) (L' := [.ref p0, .int x1, .int x2, .int x3, .int (x4 + 1)]) C dX7_copyRow_27 rfl rfl (by decide) rfl ?_
    refine ow_goto (tgt := 3) C dX7_copyRow_30 (by decide) ?_
    exact Sat.mask hh (mk_y (mk_y (mk_y (mk_y (mk_y mk_0)))))
def sm_X7_copyRow_0 (K3 : Nat → Int32 → Int32 → Int32 → Int32 → aw_H → Prop) (Q : aw_R) (p0 : Nat) (x1 : Int32) (x2 : Int32) (x3 : Int32) (h : aw_H) : Prop :=
  K3 p0 x1 x2 x3 0 h
set_option maxRecDepth 100000 in
set_option maxHeartbeats 4000000 in
theorem bl_X7_copyRow_0 {X : aw_X} {Q : aw_R} (C : aw_C X cX7_copyRow RX7 5 0) (Z : aw_Z X cX7_copyRow none Q) (p0 : Nat) (x1 : Int32) (x2 : Int32) (x3 : Int32) (h : aw_H) (hh : sm_X7_copyRow_0 (fun (p0 : Nat) (x1 : Int32) (x2 : Int32) (x3 : Int32) (x4 : Int32) (h : aw_H) => Sat X 3 [.ref p0, .int x1, .int x2, .int x3, .int x4] [] h) Q p0 x1 x2 x3 h) : Sat X 0 [.ref p0, .int x1, .int x2, .int x3, Value.null] [] h := by
  unfold sm_X7_copyRow_0 at hh
  refine ow_iconst (v := 0) C dX7_copyRow_0 rfl ?_
  refine ow_istore (L' := [.ref p0, .int x1, .int x2, .int x3, .int 0]) C dX7_copyRow_1 (by decide) rfl ?_
  exact Sat.mask hh (mk_y (mk_y (mk_y (mk_y (mk_y mk_0)))))
def tr_X7_copyRow : aw_T := fun as h Q => ∃ (p0 : Nat) (x1 : Int32) (x2 : Int32) (x3 : Int32), as = [.ref p0, .int x1, .int x2, .int x3] ∧ (∀ (K3 : Nat → Int32 → Int32 → Int32 → Int32 → aw_H → Prop), (∀ (p0 : Nat) (x1 : Int32) (x2 : Int32) (x3 : Int32) (x4 : Int32) (h : aw_H), sm_X7_copyRow_3 K3 Q p0 x1 x2 x3 x4 h → K3 p0 x1 x2 x3 x4 h) → sm_X7_copyRow_0 K3 Q p0 x1 x2 x3 h)
theorem tq_X7_copyRow {p0 : Nat} {x1 : Int32} {x2 : Int32} {x3 : Int32} {h : aw_H} {Q : aw_R} : tr_X7_copyRow [.ref p0, .int x1, .int x2, .int x3] h Q ↔ (∀ (K3 : Nat → Int32 → Int32 → Int32 → Int32 → aw_H → Prop), (∀ (p0 : Nat) (x1 : Int32) (x2 : Int32) (x3 : Int32) (x4 : Int32) (h : aw_H), sm_X7_copyRow_3 K3 Q p0 x1 x2 x3 x4 h → K3 p0 x1 x2 x3 x4 h) → sm_X7_copyRow_0 K3 Q p0 x1 x2 x3 h) := by
  constructor
  · rintro ⟨_, _, _, _, as0, hh⟩
    cases as0
    exact hh
  · intro hh
    exact ⟨_, _, _, _, rfl, hh⟩
theorem ct_X7_copyRow (E : aw_F) : CT E yX7_copyRow cX7_copyRow 5 none 0 tr_X7_copyRow := by
  refine ct_of (by decide) ?_
  intro X Q as h hE C Z hG
  subst hE
  obtain ⟨p0, x1, x2, x3, rfl, hh⟩ := hG
  refine ⟨[.ref p0, .int x1, .int x2, .int x3, Value.null], rfl, Nat.le_of_ble_eq_true rfl, ?_⟩
  exact bl_X7_copyRow_0 C Z p0 x1 x2 x3 h (hh (fun (p0 : Nat) (x1 : Int32) (x2 : Int32) (x3 : Int32) (x4 : Int32) (h : aw_H) => Sat X 3 [.ref p0, .int x1, .int x2, .int x3, .int x4] [] h) (fun p0 x1 x2 x3 x4 h hh => bl_X7_copyRow_3 C Z p0 x1 x2 x3 x4 h hh))
theorem cv_X7_copyRow (E : aw_F) : CV E yX7_copyRow cX7_copyRow 5 none 0 3 6 tr_X7_copyRow := ⟨ct_X7_copyRow E, by decide, kw_535, kw_536, kw_527, kw_534, by decide +kernel, _, _, rfl⟩
theorem dX7_states_0 : decode cX7_states 0 = .ok (.iconst 1, 1) := by decide +kernel
theorem dX7_states_1 : decode cX7_states 1 = .ok (.aload_n 0, 1) := by decide +kernel
theorem dX7_states_2 : decode cX7_states 2 = .ok (.getfield 7, 3) := by decide +kernel
theorem dX7_states_5 : decode cX7_states 5 = .ok (.iconst 0, 1) := by decide +kernel
theorem dX7_states_6 : decode cX7_states 6 = .ok (.iaload, 1) := by decide +kernel
theorem dX7_states_7 : decode cX7_states 7 = .ok (.ishl, 1) := by decide +kernel
theorem dX7_states_8 : decode cX7_states 8 = .ok (.ireturn, 1) := by decide +kernel
def sm_X7_states_0  (Q : aw_R) (p0 : Nat) (h : aw_H) : Prop :=
  sg_R h p0 6 0 fun q1 => sa_I h q1 0 fun v2 => Q (some (.int ((1 : Int32) <<< (v2 &&& 31)))) h
set_option maxRecDepth 100000 in
set_option maxHeartbeats 4000000 in
theorem bl_X7_states_0 {X : aw_X} {Q : aw_R} (C : aw_C X cX7_states RX7 1 0) (Z : aw_Z X cX7_states (some .int) Q) (p0 : Nat) (h : aw_H) (hh : sm_X7_states_0  Q p0 h) : Sat X 0 [.ref p0] [] h := by
  unfold sm_X7_states_0 at hh
  refine ow_iconst (v := 1) C dX7_states_0 rfl ?_
  refine ow_aload_n C dX7_states_1 rfl rfl ?_
  refine ow_getR (ci := 6) (k := 0) (T := TX7) C rfl igX7 (by decide) kw_533 dX7_states_2 hh (fun q1 hh => ?_)
  refine ow_iconst (v := 0) C dX7_states_5 rfl ?_
  refine ow_iaload C dX7_states_6 hh (fun v2 hh => ?_)
  refine ow_ishl C dX7_states_7 ?_
  exact ow_iret Z dX7_states_8 trivial hh
def tr_X7_states : aw_T := fun as h Q => ∃ (p0 : Nat), as = [.ref p0] ∧ (sm_X7_states_0  Q p0 h)
theorem tq_X7_states {p0 : Nat} {h : aw_H} {Q : aw_R} : tr_X7_states [.ref p0] h Q ↔ (sm_X7_states_0  Q p0 h) := by
  constructor
  · rintro ⟨_, as0, hh⟩
    cases as0
    exact hh
  · intro hh
    exact ⟨_, rfl, hh⟩
theorem ct_X7_states (E : aw_F) : CT E yX7_states cX7_states 1 (some .int) 0 tr_X7_states := by
  refine ct_of (by decide) ?_
  intro X Q as h hE C Z hG
  subst hE
  obtain ⟨p0, rfl, hh⟩ := hG
  refine ⟨[.ref p0], rfl, Nat.le_of_ble_eq_true rfl, ?_⟩
  exact bl_X7_states_0 C Z p0 h hh
theorem cv_X7_states (E : aw_F) : CV E yX7_states cX7_states 1 (some .int) 0 0 6 tr_X7_states := ⟨ct_X7_states E, by decide, kw_538, kw_539, kw_527, kw_537, by decide +kernel, _, _, rfl⟩
theorem dX7_isState_0 : decode cX7_isState 0 = .ok (.iload_n 1, 1) := by decide +kernel
theorem dX7_isState_1 : decode cX7_isState 1 = .ok (.iconst 0, 1) := by decide +kernel
theorem dX7_isState_2 : decode cX7_isState 2 = .ok (.aload_n 0, 1) := by decide +kernel
theorem dX7_isState_3 : decode cX7_isState 3 = .ok (.invokevirtual 38, 3) := by decide +kernel
theorem dX7_isState_6 : decode cX7_isState 6 = .ok (.iconst 1, 1) := by decide +kernel
theorem dX7_isState_7 : decode cX7_isState 7 = .ok (.isub, 1) := by decide +kernel
theorem dX7_isState_8 : decode cX7_isState 8 = .ok (.invokestatic 42, 3) := by decide +kernel
theorem dX7_isState_11 : decode cX7_isState 11 = .ok (.ireturn, 1) := by decide +kernel
def sm_X7_isState_0  (Q : aw_R) (p0 : Nat) (x1 : Int32) (h : aw_H) : Prop :=
  sv_O h p0 6 (tr_X7_states [.ref p0] h fun r2 h1 => sr_I r2 fun v3 => tr_X7_in [.int x1, .int 0, .int (v3 - 1)] h1 fun r5 h4 => sr_I r5 fun v6 => (v6 = 0 ∨ v6 = 1) ∧ Q (some (.int v6)) h4)
set_option maxRecDepth 100000 in
set_option maxHeartbeats 4000000 in
theorem bl_X7_isState_0 {X : aw_X} {Q : aw_R} (C : aw_C X cX7_isState RX7 2 1) (Z : aw_Z X cX7_isState (some .boolean) Q) (p0 : Nat) (x1 : Int32) (h : aw_H) (hh : sm_X7_isState_0  Q p0 x1 h) : Sat X 0 [.ref p0, .int x1] [] h := by
  unfold sm_X7_isState_0 at hh
  refine ow_iload_n C dX7_isState_0 rfl rfl ?_
  refine ow_iconst (v := 0) C dX7_isState_1 rfl ?_
  refine ow_aload_n C dX7_isState_2 rfl rfl ?_
  refine ow_callV C (cv_X7_states _) (Nat.le_of_ble_eq_true rfl) kw_540 dX7_isState_3 (as := []) (st := [.int 0, .int x1]) rfl rfl (Nat.le_of_ble_eq_true rfl) hh (fun r2 h1 hq => ?_)
  obtain ⟨v3, rfl, hh⟩ := sr_I_e hq
  show Sat X 6 [.ref p0, .int x1] [.int v3, .int 0, .int x1] h1
  refine ow_iconst (v := 1) C dX7_isState_6 rfl ?_
  refine ow_isub C dX7_isState_7 ?_
  refine ow_callS C (cs_X7_in _) (Nat.le_of_ble_eq_true rfl) kw_541 dX7_isState_8 (as := [.int x1, .int 0, .int (v3 - 1)]) (st := []) rfl rfl (Nat.le_of_ble_eq_true rfl) hh (fun r5 h4 hq => ?_)
  obtain ⟨v6, rfl, hh⟩ := sr_I_e hq
  show Sat X 11 [.ref p0, .int x1] [.int v6] h4
  exact ow_iret Z dX7_isState_11 hh.1 hh.2
def tr_X7_isState : aw_T := fun as h Q => ∃ (p0 : Nat) (x1 : Int32), as = [.ref p0, .int x1] ∧ (sm_X7_isState_0  Q p0 x1 h)
theorem tq_X7_isState {p0 : Nat} {x1 : Int32} {h : aw_H} {Q : aw_R} : tr_X7_isState [.ref p0, .int x1] h Q ↔ (sm_X7_isState_0  Q p0 x1 h) := by
  constructor
  · rintro ⟨_, _, as0, hh⟩
    cases as0
    exact hh
  · intro hh
    exact ⟨_, _, rfl, hh⟩
theorem ct_X7_isState (E : aw_F) : CT E yX7_isState cX7_isState 2 (some .boolean) 1 tr_X7_isState := by
  refine ct_of (by decide) ?_
  intro X Q as h hE C Z hG
  subst hE
  obtain ⟨p0, x1, rfl, hh⟩ := hG
  refine ⟨[.ref p0, .int x1], rfl, Nat.le_of_ble_eq_true rfl, ?_⟩
  exact bl_X7_isState_0 C Z p0 x1 h hh
theorem cv_X7_isState (E : aw_F) : CV E yX7_isState cX7_isState 2 (some .boolean) 1 1 6 tr_X7_isState := ⟨ct_X7_isState E, by decide, kw_543, kw_544, kw_527, kw_542, by decide +kernel, _, _, rfl⟩
theorem dX7_isWire_0 : decode cX7_isWire 0 = .ok (.iload_n 1, 1) := by decide +kernel
theorem dX7_isWire_1 : decode cX7_isWire 1 = .ok (.iconst 0, 1) := by decide +kernel
theorem dX7_isWire_2 : decode cX7_isWire 2 = .ok (.aload_n 0, 1) := by decide +kernel
theorem dX7_isWire_3 : decode cX7_isWire 3 = .ok (.getfield 7, 3) := by decide +kernel
theorem dX7_isWire_6 : decode cX7_isWire 6 = .ok (.iconst 0, 1) := by decide +kernel
theorem dX7_isWire_7 : decode cX7_isWire 7 = .ok (.iaload, 1) := by decide +kernel
theorem dX7_isWire_8 : decode cX7_isWire 8 = .ok (.iconst 1, 1) := by decide +kernel
theorem dX7_isWire_9 : decode cX7_isWire 9 = .ok (.isub, 1) := by decide +kernel
theorem dX7_isWire_10 : decode cX7_isWire 10 = .ok (.invokestatic 42, 3) := by decide +kernel
theorem dX7_isWire_13 : decode cX7_isWire 13 = .ok (.ireturn, 1) := by decide +kernel
def sm_X7_isWire_0  (Q : aw_R) (p0 : Nat) (x1 : Int32) (h : aw_H) : Prop :=
  sg_R h p0 6 0 fun q1 => sa_I h q1 0 fun v2 => tr_X7_in [.int x1, .int 0, .int (v2 - 1)] h fun r4 h3 => sr_I r4 fun v5 => (v5 = 0 ∨ v5 = 1) ∧ Q (some (.int v5)) h3
set_option maxRecDepth 100000 in
set_option maxHeartbeats 4000000 in
theorem bl_X7_isWire_0 {X : aw_X} {Q : aw_R} (C : aw_C X cX7_isWire RX7 2 1) (Z : aw_Z X cX7_isWire (some .boolean) Q) (p0 : Nat) (x1 : Int32) (h : aw_H) (hh : sm_X7_isWire_0  Q p0 x1 h) : Sat X 0 [.ref p0, .int x1] [] h := by
  unfold sm_X7_isWire_0 at hh
  refine ow_iload_n C dX7_isWire_0 rfl rfl ?_
  refine ow_iconst (v := 0) C dX7_isWire_1 rfl ?_
  refine ow_aload_n C dX7_isWire_2 rfl rfl ?_
  refine ow_getR (ci := 6) (k := 0) (T := TX7) C rfl igX7 (by decide) kw_533 dX7_isWire_3 hh (fun q1 hh => ?_)
  refine ow_iconst (v := 0) C dX7_isWire_6 rfl ?_
  refine ow_iaload C dX7_isWire_7 hh (fun v2 hh => ?_)
  refine ow_iconst (v := 1) C dX7_isWire_8 rfl ?_
  refine ow_isub C dX7_isWire_9 ?_
  refine ow_callS C (cs_X7_in _) (Nat.le_of_ble_eq_true rfl) kw_541 dX7_isWire_10 (as := [.int x1, .int 0, .int (v2 - 1)]) (st := []) rfl rfl (Nat.le_of_ble_eq_true rfl) hh (fun r4 h3 hq => ?_)
  obtain ⟨v5, rfl, hh⟩ := sr_I_e hq
  show Sat X 13 [.ref p0, .int x1] [.int v5] h3
  exact ow_iret Z dX7_isWire_13 hh.1 hh.2
def tr_X7_isWire : aw_T := fun as h Q => ∃ (p0 : Nat) (x1 : Int32), as = [.ref p0, .int x1] ∧ (sm_X7_isWire_0  Q p0 x1 h)
theorem tq_X7_isWire {p0 : Nat} {x1 : Int32} {h : aw_H} {Q : aw_R} : tr_X7_isWire [.ref p0, .int x1] h Q ↔ (sm_X7_isWire_0  Q p0 x1 h) := by
  constructor
  · rintro ⟨_, _, as0, hh⟩
    cases as0
    exact hh
  · intro hh
    exact ⟨_, _, rfl, hh⟩
theorem ct_X7_isWire (E : aw_F) : CT E yX7_isWire cX7_isWire 2 (some .boolean) 1 tr_X7_isWire := by
  refine ct_of (by decide) ?_
  intro X Q as h hE C Z hG
  subst hE
  obtain ⟨p0, x1, rfl, hh⟩ := hG
  refine ⟨[.ref p0, .int x1], rfl, Nat.le_of_ble_eq_true rfl, ?_⟩
  exact bl_X7_isWire_0 C Z p0 x1 h hh
theorem cv_X7_isWire (E : aw_F) : CV E yX7_isWire cX7_isWire 2 (some .boolean) 1 1 6 tr_X7_isWire := ⟨ct_X7_isWire E, by decide, kw_546, kw_547, kw_527, kw_545, by decide +kernel, _, _, rfl⟩
theorem dX7_isGate_0 : decode cX7_isGate 0 = .ok (.iload_n 1, 1) := by decide +kernel
theorem dX7_isGate_1 : decode cX7_isGate 1 = .ok (.iconst 0, 1) := by decide +kernel
theorem dX7_isGate_2 : decode cX7_isGate 2 = .ok (.aload_n 0, 1) := by decide +kernel
theorem dX7_isGate_3 : decode cX7_isGate 3 = .ok (.getfield 7, 3) := by decide +kernel
theorem dX7_isGate_6 : decode cX7_isGate 6 = .ok (.iconst 1, 1) := by decide +kernel
theorem dX7_isGate_7 : decode cX7_isGate 7 = .ok (.iaload, 1) := by decide +kernel
theorem dX7_isGate_8 : decode cX7_isGate 8 = .ok (.iconst 1, 1) := by decide +kernel
theorem dX7_isGate_9 : decode cX7_isGate 9 = .ok (.isub, 1) := by decide +kernel
theorem dX7_isGate_10 : decode cX7_isGate 10 = .ok (.invokestatic 42, 3) := by decide +kernel
theorem dX7_isGate_13 : decode cX7_isGate 13 = .ok (.ireturn, 1) := by decide +kernel
def sm_X7_isGate_0  (Q : aw_R) (p0 : Nat) (x1 : Int32) (h : aw_H) : Prop :=
  sg_R h p0 6 0 fun q1 => sa_I h q1 1 fun v2 => tr_X7_in [.int x1, .int 0, .int (v2 - 1)] h fun r4 h3 => sr_I r4 fun v5 => (v5 = 0 ∨ v5 = 1) ∧ Q (some (.int v5)) h3
set_option maxRecDepth 100000 in
set_option maxHeartbeats 4000000 in
theorem bl_X7_isGate_0 {X : aw_X} {Q : aw_R} (C : aw_C X cX7_isGate RX7 2 1) (Z : aw_Z X cX7_isGate (some .boolean) Q) (p0 : Nat) (x1 : Int32) (h : aw_H) (hh : sm_X7_isGate_0  Q p0 x1 h) : Sat X 0 [.ref p0, .int x1] [] h := by
  unfold sm_X7_isGate_0 at hh
  refine ow_iload_n C dX7_isGate_0 rfl rfl ?_
  refine ow_iconst (v := 0) C dX7_isGate_1 rfl ?_
  refine ow_aload_n C dX7_isGate_2 rfl rfl ?_
  refine ow_getR (ci := 6) (k := 0) (T := TX7) C rfl igX7 (by decide) kw_533 dX7_isGate_3 hh (fun q1 hh => ?_)
  refine ow_iconst (v := 1) C dX7_isGate_6 rfl ?_
  refine ow_iaload C dX7_isGate_7 hh (fun v2 hh => ?_)
  refine ow_iconst (v := 1) C dX7_isGate_8 rfl ?_
  refine ow_isub C dX7_isGate_9 ?_
  refine ow_callS C (cs_X7_in _) (Nat.le_of_ble_eq_true rfl) kw_541 dX7_isGate_10 (as := [.int x1, .int 0, .int (v2 - 1)]) (st := []) rfl rfl (Nat.le_of_ble_eq_true rfl) hh (fun r4 h3 hq => ?_)
  obtain ⟨v5, rfl, hh⟩ := sr_I_e hq
  show Sat X 13 [.ref p0, .int x1] [.int v5] h3
  exact ow_iret Z dX7_isGate_13 hh.1 hh.2
def tr_X7_isGate : aw_T := fun as h Q => ∃ (p0 : Nat) (x1 : Int32), as = [.ref p0, .int x1] ∧ (sm_X7_isGate_0  Q p0 x1 h)
theorem tq_X7_isGate {p0 : Nat} {x1 : Int32} {h : aw_H} {Q : aw_R} : tr_X7_isGate [.ref p0, .int x1] h Q ↔ (sm_X7_isGate_0  Q p0 x1 h) := by
  constructor
  · rintro ⟨_, _, as0, hh⟩
    cases as0
    exact hh
  · intro hh
    exact ⟨_, _, rfl, hh⟩
theorem ct_X7_isGate (E : aw_F) : CT E yX7_isGate cX7_isGate 2 (some .boolean) 1 tr_X7_isGate := by
  refine ct_of (by decide) ?_
  intro X Q as h hE C Z hG
  subst hE
  obtain ⟨p0, x1, rfl, hh⟩ := hG
  refine ⟨[.ref p0, .int x1], rfl, Nat.le_of_ble_eq_true rfl, ?_⟩
  exact bl_X7_isGate_0 C Z p0 x1 h hh
theorem cv_X7_isGate (E : aw_F) : CV E yX7_isGate cX7_isGate 2 (some .boolean) 1 1 6 tr_X7_isGate := ⟨ct_X7_isGate E, by decide, kw_549, kw_550, kw_527, kw_548, by decide +kernel, _, _, rfl⟩
theorem dX7_wiresOf_0 : decode cX7_wiresOf 0 = .ok (.iload_n 0, 1) := by decide +kernel
theorem dX7_wiresOf_1 : decode cX7_wiresOf 1 = .ok (.ifCond .ne 7, 3) := by decide +kernel
theorem dX7_wiresOf_4 : decode cX7_wiresOf 4 = .ok (.iconst 1, 1) := by decide +kernel
theorem dX7_wiresOf_5 : decode cX7_wiresOf 5 = .ok (.goto 13, 3) := by decide +kernel
theorem dX7_wiresOf_8 : decode cX7_wiresOf 8 = .ok (.iload_n 0, 1) := by decide +kernel
theorem dX7_wiresOf_9 : decode cX7_wiresOf 9 = .ok (.iconst 3, 1) := by decide +kernel
theorem dX7_wiresOf_10 : decode cX7_wiresOf 10 = .ok (.if_icmp .ge 7, 3) := by decide +kernel
theorem dX7_wiresOf_13 : decode cX7_wiresOf 13 = .ok (.iconst 2, 1) := by decide +kernel
theorem dX7_wiresOf_14 : decode cX7_wiresOf 14 = .ok (.goto 4, 3) := by decide +kernel
theorem dX7_wiresOf_17 : decode cX7_wiresOf 17 = .ok (.iconst 3, 1) := by decide +kernel
theorem dX7_wiresOf_18 : decode cX7_wiresOf 18 = .ok (.ireturn, 1) := by decide +kernel
def sm_X7_wiresOf_0  (Q : aw_R) (x0 : Int32) (h : aw_H) : Prop :=
  if ¬ x0 = 0 then (if 3 ≤ x0 then (Q (some (.int 3)) h) else (Q (some (.int 2)) h)) else (Q (some (.int 1)) h)
set_option maxRecDepth 100000 in
set_option maxHeartbeats 4000000 in
theorem bl_X7_wiresOf_0 {X : aw_X} {Q : aw_R} (C : aw_C X cX7_wiresOf RX7 1 0) (Z : aw_Z X cX7_wiresOf (some .int) Q) (x0 : Int32) (h : aw_H) (hh : sm_X7_wiresOf_0  Q x0 h) : Sat X 0 [.int x0] [] h := by
  unfold sm_X7_wiresOf_0 at hh
  refine ow_iload_n C dX7_wiresOf_0 rfl rfl ?_
  refine ow_if_ne (tgt := 8) C dX7_wiresOf_1 (by decide) hh (fun hh => ?_) (fun hh => ?_)
  · skip
    refine ow_iload_n C dX7_wiresOf_8 rfl rfl ?_
    refine ow_iconst (v := 3) C dX7_wiresOf_9 rfl ?_
    refine ow_icmp_ge (tgt := 17) C dX7_wiresOf_10 (by decide) hh (fun hh => ?_) (fun hh => ?_)
    · skip
      refine ow_iconst (v := 3) C dX7_wiresOf_17 rfl ?_
      exact ow_iret Z dX7_wiresOf_18 trivial hh
    · skip
      refine ow_iconst (v := 2) C dX7_wiresOf_13 rfl ?_
      refine ow_goto (tgt := 18) C dX7_wiresOf_14 (by decide) ?_
      exact ow_iret Z dX7_wiresOf_18 trivial hh
  · skip
    refine ow_iconst (v := 1) C dX7_wiresOf_4 rfl ?_
    refine ow_goto (tgt := 18) C dX7_wiresOf_5 (by decide) ?_
    exact ow_iret Z dX7_wiresOf_18 trivial hh
def tr_X7_wiresOf : aw_T := fun as h Q => ∃ (x0 : Int32), as = [.int x0] ∧ (sm_X7_wiresOf_0  Q x0 h)
theorem tq_X7_wiresOf {x0 : Int32} {h : aw_H} {Q : aw_R} : tr_X7_wiresOf [.int x0] h Q ↔ (sm_X7_wiresOf_0  Q x0 h) := by
  constructor
  · rintro ⟨_, as0, hh⟩
    cases as0
    exact hh
  · intro hh
    exact ⟨_, rfl, hh⟩
theorem ct_X7_wiresOf (E : aw_F) : CT E yX7_wiresOf cX7_wiresOf 1 (some .int) 0 tr_X7_wiresOf := by
  refine ct_of (by decide) ?_
  intro X Q as h hE C Z hG
  subst hE
  obtain ⟨x0, rfl, hh⟩ := hG
  refine ⟨[.int x0], rfl, Nat.le_of_ble_eq_true rfl, ?_⟩
  exact bl_X7_wiresOf_0 C Z x0 h hh
theorem cs_X7_wiresOf (E : aw_F) : CS E yX7_wiresOf cX7_wiresOf 1 (some .int) 0 1 tr_X7_wiresOf := ⟨ct_X7_wiresOf E, by decide, kw_552, kw_527, kw_551, by decide +kernel⟩
theorem dX7_areUnlike_0 : decode cX7_areUnlike 0 = .ok (.iload_n 0, 1) := by decide +kernel
theorem dX7_areUnlike_1 : decode cX7_areUnlike 1 = .ok (.iconst 1, 1) := by decide +kernel
theorem dX7_areUnlike_2 : decode cX7_areUnlike 2 = .ok (.if_icmp .eq 23, 3) := by decide +kernel
theorem dX7_areUnlike_5 : decode cX7_areUnlike 5 = .ok (.iload_n 1, 1) := by decide +kernel
theorem dX7_areUnlike_6 : decode cX7_areUnlike 6 = .ok (.iload_n 2, 1) := by decide +kernel
theorem dX7_areUnlike_7 : decode cX7_areUnlike 7 = .ok (.if_icmp .eq 22, 3) := by decide +kernel
theorem dX7_areUnlike_10 : decode cX7_areUnlike 10 = .ok (.iload_n 0, 1) := by decide +kernel
theorem dX7_areUnlike_11 : decode cX7_areUnlike 11 = .ok (.iconst 2, 1) := by decide +kernel
theorem dX7_areUnlike_12 : decode cX7_areUnlike 12 = .ok (.if_icmp .eq 13, 3) := by decide +kernel
theorem dX7_areUnlike_15 : decode cX7_areUnlike 15 = .ok (.iload_n 1, 1) := by decide +kernel
theorem dX7_areUnlike_16 : decode cX7_areUnlike 16 = .ok (.iload_n 3, 1) := by decide +kernel
theorem dX7_areUnlike_17 : decode cX7_areUnlike 17 = .ok (.if_icmp .eq 12, 3) := by decide +kernel
theorem dX7_areUnlike_20 : decode cX7_areUnlike 20 = .ok (.iload_n 2, 1) := by decide +kernel
theorem dX7_areUnlike_21 : decode cX7_areUnlike 21 = .ok (.iload_n 3, 1) := by decide +kernel
theorem dX7_areUnlike_22 : decode cX7_areUnlike 22 = .ok (.if_icmp .eq 7, 3) := by decide +kernel
theorem dX7_areUnlike_25 : decode cX7_areUnlike 25 = .ok (.iconst 1, 1) := by decide +kernel
theorem dX7_areUnlike_26 : decode cX7_areUnlike 26 = .ok (.goto 4, 3) := by decide +kernel
theorem dX7_areUnlike_29 : decode cX7_areUnlike 29 = .ok (.iconst 0, 1) := by decide +kernel
theorem dX7_areUnlike_30 : decode cX7_areUnlike 30 = .ok (.ireturn, 1) := by decide +kernel
def sm_X7_areUnlike_0  (Q : aw_R) (x0 : Int32) (x1 : Int32) (x2 : Int32) (x3 : Int32) (h : aw_H) : Prop :=
  if x0 = 1 then (Q (some (.int 1)) h) else (if x1 = x2 then (Q (some (.int 0)) h) else (if x0 = 2 then (Q (some (.int 1)) h) else (if x1 = x3 then (Q (some (.int 0)) h) else (if x2 = x3 then (Q (some (.int 0)) h) else (Q (some (.int 1)) h)))))
set_option maxRecDepth 100000 in
set_option maxHeartbeats 4000000 in
theorem bl_X7_areUnlike_0 {X : aw_X} {Q : aw_R} (C : aw_C X cX7_areUnlike RX7 4 0) (Z : aw_Z X cX7_areUnlike (some .boolean) Q) (x0 : Int32) (x1 : Int32) (x2 : Int32) (x3 : Int32) (h : aw_H) (hh : sm_X7_areUnlike_0  Q x0 x1 x2 x3 h) : Sat X 0 [.int x0, .int x1, .int x2, .int x3] [] h := by
  unfold sm_X7_areUnlike_0 at hh
  refine ow_iload_n C dX7_areUnlike_0 rfl rfl ?_
  refine ow_iconst (v := 1) C dX7_areUnlike_1 rfl ?_
  refine ow_icmp_eq (tgt := 25) C dX7_areUnlike_2 (by decide) hh (fun hh => ?_) (fun hh => ?_)
  · skip
    refine ow_iconst (v := 1) C dX7_areUnlike_25 rfl ?_
    refine ow_goto (tgt := 30) C dX7_areUnlike_26 (by decide) ?_
    exact ow_iret Z dX7_areUnlike_30 (Or.inr rfl) hh
  · skip
    refine ow_iload_n C dX7_areUnlike_5 rfl rfl ?_
    refine ow_iload_n C dX7_areUnlike_6 rfl rfl ?_
    refine ow_icmp_eq (tgt := 29) C dX7_areUnlike_7 (by decide) hh (fun hh => ?_) (fun hh => ?_)
    · skip
      refine ow_iconst (v := 0) C dX7_areUnlike_29 rfl ?_
      exact ow_iret Z dX7_areUnlike_30 (Or.inl rfl) hh
    · skip
      refine ow_iload_n C dX7_areUnlike_10 rfl rfl ?_
      refine ow_iconst (v := 2) C dX7_areUnlike_11 rfl ?_
      refine ow_icmp_eq (tgt := 25) C dX7_areUnlike_12 (by decide) hh (fun hh => ?_) (fun hh => ?_)
      · skip
        refine ow_iconst (v := 1) C dX7_areUnlike_25 rfl ?_
        refine ow_goto (tgt := 30) C dX7_areUnlike_26 (by decide) ?_
        exact ow_iret Z dX7_areUnlike_30 (Or.inr rfl) hh
      · skip
        refine ow_iload_n C dX7_areUnlike_15 rfl rfl ?_
        refine ow_iload_n C dX7_areUnlike_16 rfl rfl ?_
        refine ow_icmp_eq (tgt := 29) C dX7_areUnlike_17 (by decide) hh (fun hh => ?_) (fun hh => ?_)
        · skip
          refine ow_iconst (v := 0) C dX7_areUnlike_29 rfl ?_
          exact ow_iret Z dX7_areUnlike_30 (Or.inl rfl) hh
        · skip
          refine ow_iload_n C dX7_areUnlike_20 rfl rfl ?_
          refine ow_iload_n C dX7_areUnlike_21 rfl rfl ?_
          refine ow_icmp_eq (tgt := 29) C dX7_areUnlike_22 (by decide) hh (fun hh => ?_) (fun hh => ?_)
          · skip
            refine ow_iconst (v := 0) C dX7_areUnlike_29 rfl ?_
            exact ow_iret Z dX7_areUnlike_30 (Or.inl rfl) hh
          · skip
            refine ow_iconst (v := 1) C dX7_areUnlike_25 rfl ?_
            refine ow_goto (tgt := 30) C dX7_areUnlike_26 (by decide) ?_
            exact ow_iret Z dX7_areUnlike_30 (Or.inr rfl) hh
def tr_X7_areUnlike : aw_T := fun as h Q => ∃ (x0 : Int32) (x1 : Int32) (x2 : Int32) (x3 : Int32), as = [.int x0, .int x1, .int x2, .int x3] ∧ (sm_X7_areUnlike_0  Q x0 x1 x2 x3 h)
theorem tq_X7_areUnlike {x0 : Int32} {x1 : Int32} {x2 : Int32} {x3 : Int32} {h : aw_H} {Q : aw_R} : tr_X7_areUnlike [.int x0, .int x1, .int x2, .int x3] h Q ↔ (sm_X7_areUnlike_0  Q x0 x1 x2 x3 h) := by
  constructor
  · rintro ⟨_, _, _, _, as0, hh⟩
    cases as0
    exact hh
  · intro hh
    exact ⟨_, _, _, _, rfl, hh⟩
theorem ct_X7_areUnlike (E : aw_F) : CT E yX7_areUnlike cX7_areUnlike 4 (some .boolean) 0 tr_X7_areUnlike := by
  refine ct_of (by decide) ?_
  intro X Q as h hE C Z hG
  subst hE
  obtain ⟨x0, x1, x2, x3, rfl, hh⟩ := hG
  refine ⟨[.int x0, .int x1, .int x2, .int x3], rfl, Nat.le_of_ble_eq_true rfl, ?_⟩
  exact bl_X7_areUnlike_0 C Z x0 x1 x2 x3 h hh
theorem cs_X7_areUnlike (E : aw_F) : CS E yX7_areUnlike cX7_areUnlike 4 (some .boolean) 0 4 tr_X7_areUnlike := ⟨ct_X7_areUnlike E, by decide, kw_554, kw_527, kw_553, by decide +kernel⟩
theorem dX7_clear_0 : decode cX7_clear 0 = .ok (.aload_n 0, 1) := by decide +kernel
theorem dX7_clear_1 : decode cX7_clear 1 = .ok (.getfield 7, 3) := by decide +kernel
theorem dX7_clear_4 : decode cX7_clear 4 = .ok (.iconst 4, 1) := by decide +kernel
theorem dX7_clear_5 : decode cX7_clear 5 = .ok (.iaload, 1) := by decide +kernel
theorem dX7_clear_6 : decode cX7_clear 6 = .ok (.istore_n 2, 1) := by decide +kernel
theorem dX7_clear_7 : decode cX7_clear 7 = .ok (.iconst 0, 1) := by decide +kernel
theorem dX7_clear_8 : decode cX7_clear 8 = .ok (.istore_n 3, 1) := by decide +kernel
theorem dX7_clear_9 : decode cX7_clear 9 = .ok (.iload_n 3, 1) := by decide +kernel
theorem dX7_clear_10 : decode cX7_clear 10 = .ok (.sipush 766, 3) := by decide +kernel
theorem dX7_clear_13 : decode cX7_clear 13 = .ok (.if_icmp .ge 16, 3) := by decide +kernel
theorem dX7_clear_16 : decode cX7_clear 16 = .ok (.aload_n 0, 1) := by decide +kernel
theorem dX7_clear_17 : decode cX7_clear 17 = .ok (.getfield 7, 3) := by decide +kernel
theorem dX7_clear_20 : decode cX7_clear 20 = .ok (.iload_n 3, 1) := by decide +kernel
theorem dX7_clear_21 : decode cX7_clear 21 = .ok (.iconst 0, 1) := by decide +kernel
theorem dX7_clear_22 : decode cX7_clear 22 = .ok (.iastore, 1) := by decide +kernel
theorem dX7_clear_23 : decode cX7_clear 23 = .ok (.iinc 3 1, 3) := by decide +kernel
theorem dX7_clear_26 : decode cX7_clear 26 = .ok (.goto (-17), 3) := by decide +kernel
theorem dX7_clear_29 : decode cX7_clear 29 = .ok (.aload_n 0, 1) := by decide +kernel
theorem dX7_clear_30 : decode cX7_clear 30 = .ok (.getfield 7, 3) := by decide +kernel
theorem dX7_clear_33 : decode cX7_clear 33 = .ok (.iconst 0, 1) := by decide +kernel
theorem dX7_clear_34 : decode cX7_clear 34 = .ok (.iload_n 1, 1) := by decide +kernel
theorem dX7_clear_35 : decode cX7_clear 35 = .ok (.iastore, 1) := by decide +kernel
theorem dX7_clear_36 : decode cX7_clear 36 = .ok (.aload_n 0, 1) := by decide +kernel
theorem dX7_clear_37 : decode cX7_clear 37 = .ok (.getfield 7, 3) := by decide +kernel
theorem dX7_clear_40 : decode cX7_clear 40 = .ok (.iconst 4, 1) := by decide +kernel
theorem dX7_clear_41 : decode cX7_clear 41 = .ok (.iload_n 2, 1) := by decide +kernel
theorem dX7_clear_42 : decode cX7_clear 42 = .ok (.iastore, 1) := by decide +kernel
theorem dX7_clear_43 : decode cX7_clear 43 = .ok (.return_, 1) := by decide +kernel
def sm_X7_clear_9 (K9 : Nat → Int32 → Int32 → Int32 → aw_H → Prop) (Q : aw_R) (p0 : Nat) (x1 : Int32) (x2 : Int32) (x3 : Int32) (h : aw_H) : Prop :=
  if 766 ≤ x3 then (sg_R h p0 6 0 fun q1 => ss_I h q1 0 x1 fun h2 => sg_R h2 p0 6 0 fun q3 => ss_I h2 q3 4 x2 fun h4 => Q none h4) else (sg_R h p0 6 0 fun q5 => ss_I h q5 x3 0 fun h6 => K9 p0 x1 x2 (x3 + 1) h6)
set_option maxRecDepth 100000 in
set_option maxHeartbeats 4000000 in
theorem bl_X7_clear_9 {X : aw_X} {Q : aw_R} (C : aw_C X cX7_clear RX7 4 0) (Z : aw_Z X cX7_clear none Q) (p0 : Nat) (x1 : Int32) (x2 : Int32) (x3 : Int32) (h : aw_H) (hh : sm_X7_clear_9 (fun (p0 : Nat) (x1 : Int32) (x2 : Int32) (x3 : Int32) (h : aw_H) => Sat X 9 [.ref p0, .int x1, .int x2, .int x3] [] h) Q p0 x1 x2 x3 h) : Sat X 9 [.ref p0, .int x1, .int x2, .int x3] [] h := by
  unfold sm_X7_clear_9 at hh
  refine ow_iload_n C dX7_clear_9 rfl rfl ?_
  refine ow_sipush (v := 766) C dX7_clear_10 rfl ?_
  refine ow_icmp_ge (tgt := 29) C dX7_clear_13 (by decide) hh (fun hh => ?_) (fun hh => ?_)
  · skip
    refine ow_aload_n C dX7_clear_29 rfl rfl ?_
    refine ow_getR (ci := 6) (k := 0) (T := TX7) C rfl igX7 (by decide) kw_533 dX7_clear_30 hh (fun q1 hh => ?_)
    refine ow_iconst (v := 0) C dX7_clear_33 rfl ?_
    refine ow_iload_n C dX7_clear_34 rfl rfl ?_
    refine ow_iastore C dX7_clear_35 hh (fun h2 hh => ?_)
    refine ow_aload_n C dX7_clear_36 rfl rfl ?_
    refine ow_getR (ci := 6) (k := 0) (T := TX7) C rfl igX7 (by decide) kw_533 dX7_clear_37 hh (fun q3 hh => ?_)
    refine ow_iconst (v := 4) C dX7_clear_40 rfl ?_
    refine ow_iload_n C dX7_clear_41 rfl rfl ?_
    refine ow_iastore C dX7_clear_42 hh (fun h4 hh => ?_)
    exact ow_vret Z dX7_clear_43 trivial hh
  · skip
    refine ow_aload_n C dX7_clear_16 rfl rfl ?_
    refine ow_getR (ci := 6) (k := 0) (T := TX7) C rfl igX7 (by decide) kw_533 dX7_clear_17 hh (fun q5 hh => ?_)
    refine ow_iload_n C dX7_clear_20 rfl rfl ?_
    refine ow_iconst (v := 0) C dX7_clear_21 rfl ?_
    refine ow_iastore C dX7_clear_22 hh (fun h6 hh => ?_)
    refine ow_iinc (v := x3 + 1) (L' := [.ref p0, .int x1, .int x2, .int (x3 + 1)]) C dX7_clear_23 rfl rfl (by decide) rfl ?_
    refine ow_goto (tgt := 9) C dX7_clear_26 (by decide) ?_
    exact Sat.mask hh (mk_y (mk_y (mk_y (mk_y mk_0))))
def sm_X7_clear_0 (K9 : Nat → Int32 → Int32 → Int32 → aw_H → Prop) (Q : aw_R) (p0 : Nat) (x1 : Int32) (h : aw_H) : Prop :=
  sg_R h p0 6 0 fun q1 => sa_I h q1 4 fun v2 => K9 p0 x1 v2 0 h
set_option maxRecDepth 100000 in
set_option maxHeartbeats 4000000 in
theorem bl_X7_clear_0 {X : aw_X} {Q : aw_R} (C : aw_C X cX7_clear RX7 4 0) (Z : aw_Z X cX7_clear none Q) (p0 : Nat) (x1 : Int32) (h : aw_H) (hh : sm_X7_clear_0 (fun (p0 : Nat) (x1 : Int32) (x2 : Int32) (x3 : Int32) (h : aw_H) => Sat X 9 [.ref p0, .int x1, .int x2, .int x3] [] h) Q p0 x1 h) : Sat X 0 [.ref p0, .int x1, Value.null, Value.null] [] h := by
  unfold sm_X7_clear_0 at hh
  refine ow_aload_n C dX7_clear_0 rfl rfl ?_
  refine ow_getR (ci := 6) (k := 0) (T := TX7) C rfl igX7 (by decide) kw_533 dX7_clear_1 hh (fun q1 hh => ?_)
  refine ow_iconst (v := 4) C dX7_clear_4 rfl ?_
  refine ow_iaload C dX7_clear_5 hh (fun v2 hh => ?_)
  refine ow_istore_n (L' := [.ref p0, .int x1, .int v2, Value.null]) C dX7_clear_6 rfl (by decide) rfl ?_
  refine ow_iconst (v := 0) C dX7_clear_7 rfl ?_
  refine ow_istore_n (L' := [.ref p0, .int x1, .int v2, .int 0]) C dX7_clear_8 rfl (by decide) rfl ?_
  exact Sat.mask hh (mk_y (mk_y (mk_y (mk_y mk_0))))
def tr_X7_clear : aw_T := fun as h Q => ∃ (p0 : Nat) (x1 : Int32), as = [.ref p0, .int x1] ∧ (∀ (K9 : Nat → Int32 → Int32 → Int32 → aw_H → Prop), (∀ (p0 : Nat) (x1 : Int32) (x2 : Int32) (x3 : Int32) (h : aw_H), sm_X7_clear_9 K9 Q p0 x1 x2 x3 h → K9 p0 x1 x2 x3 h) → sm_X7_clear_0 K9 Q p0 x1 h)
theorem tq_X7_clear {p0 : Nat} {x1 : Int32} {h : aw_H} {Q : aw_R} : tr_X7_clear [.ref p0, .int x1] h Q ↔ (∀ (K9 : Nat → Int32 → Int32 → Int32 → aw_H → Prop), (∀ (p0 : Nat) (x1 : Int32) (x2 : Int32) (x3 : Int32) (h : aw_H), sm_X7_clear_9 K9 Q p0 x1 x2 x3 h → K9 p0 x1 x2 x3 h) → sm_X7_clear_0 K9 Q p0 x1 h) := by
  constructor
  · rintro ⟨_, _, as0, hh⟩
    cases as0
    exact hh
  · intro hh
    exact ⟨_, _, rfl, hh⟩
theorem ct_X7_clear (E : aw_F) : CT E yX7_clear cX7_clear 4 none 0 tr_X7_clear := by
  refine ct_of (by decide) ?_
  intro X Q as h hE C Z hG
  subst hE
  obtain ⟨p0, x1, rfl, hh⟩ := hG
  refine ⟨[.ref p0, .int x1, Value.null, Value.null], rfl, Nat.le_of_ble_eq_true rfl, ?_⟩
  exact bl_X7_clear_0 C Z p0 x1 h (hh (fun (p0 : Nat) (x1 : Int32) (x2 : Int32) (x3 : Int32) (h : aw_H) => Sat X 9 [.ref p0, .int x1, .int x2, .int x3] [] h) (fun p0 x1 x2 x3 h hh => bl_X7_clear_9 C Z p0 x1 x2 x3 h hh))
theorem cv_X7_clear (E : aw_F) : CV E yX7_clear cX7_clear 4 none 0 1 6 tr_X7_clear := ⟨ct_X7_clear E, by decide, kw_556, kw_557, kw_527, kw_555, by decide +kernel, _, _, rfl⟩
theorem dX7_wires_0 : decode cX7_wires 0 = .ok (.iload_n 1, 1) := by decide +kernel
theorem dX7_wires_1 : decode cX7_wires 1 = .ok (.iconst 2, 1) := by decide +kernel
theorem dX7_wires_2 : decode cX7_wires 2 = .ok (.bipush 6, 2) := by decide +kernel
theorem dX7_wires_4 : decode cX7_wires 4 = .ok (.invokestatic 42, 3) := by decide +kernel
theorem dX7_wires_7 : decode cX7_wires 7 = .ok (.ifCond .ne 5, 3) := by decide +kernel
theorem dX7_wires_10 : decode cX7_wires 10 = .ok (.iconst (-1), 1) := by decide +kernel
theorem dX7_wires_11 : decode cX7_wires 11 = .ok (.ireturn, 1) := by decide +kernel
theorem dX7_wires_12 : decode cX7_wires 12 = .ok (.aload_n 0, 1) := by decide +kernel
theorem dX7_wires_13 : decode cX7_wires 13 = .ok (.getfield 7, 3) := by decide +kernel
theorem dX7_wires_16 : decode cX7_wires 16 = .ok (.iconst 0, 1) := by decide +kernel
theorem dX7_wires_17 : decode cX7_wires 17 = .ok (.iaload, 1) := by decide +kernel
theorem dX7_wires_18 : decode cX7_wires 18 = .ok (.istore_n 2, 1) := by decide +kernel
theorem dX7_wires_19 : decode cX7_wires 19 = .ok (.aload_n 0, 1) := by decide +kernel
theorem dX7_wires_20 : decode cX7_wires 20 = .ok (.iload_n 1, 1) := by decide +kernel
theorem dX7_wires_21 : decode cX7_wires 21 = .ok (.invokevirtual 46, 3) := by decide +kernel
theorem dX7_wires_24 : decode cX7_wires 24 = .ok (.iload_n 2, 1) := by decide +kernel
theorem dX7_wires_25 : decode cX7_wires 25 = .ok (.ireturn, 1) := by decide +kernel
def sm_X7_wires_0  (Q : aw_R) (p0 : Nat) (x1 : Int32) (h : aw_H) : Prop :=
  tr_X7_in [.int x1, .int 2, .int 6] h fun r2 h1 => sr_I r2 fun v3 => if ¬ v3 = 0 then (sg_R h1 p0 6 0 fun q4 => sa_I h1 q4 0 fun v5 => sv_O h1 p0 6 (tr_X7_clear [.ref p0, .int x1] h1 fun r7 h6 => sr_V r7 <| Q (some (.int v5)) h6)) else (Q (some (.int ((-1)))) h1)
set_option maxRecDepth 100000 in
set_option maxHeartbeats 4000000 in
theorem bl_X7_wires_0 {X : aw_X} {Q : aw_R} (C : aw_C X cX7_wires RX7 3 1) (Z : aw_Z X cX7_wires (some .int) Q) (p0 : Nat) (x1 : Int32) (h : aw_H) (hh : sm_X7_wires_0  Q p0 x1 h) : Sat X 0 [.ref p0, .int x1, Value.null] [] h := by
  unfold sm_X7_wires_0 at hh
  refine ow_iload_n C dX7_wires_0 rfl rfl ?_
  refine ow_iconst (v := 2) C dX7_wires_1 rfl ?_
  refine ow_bipush (v := 6) C dX7_wires_2 rfl ?_
  refine ow_callS C (cs_X7_in _) (Nat.le_of_ble_eq_true rfl) kw_541 dX7_wires_4 (as := [.int x1, .int 2, .int 6]) (st := []) rfl rfl (Nat.le_of_ble_eq_true rfl) hh (fun r2 h1 hq => ?_)
  obtain ⟨v3, rfl, hh⟩ := sr_I_e hq
  show Sat X 7 [.ref p0, .int x1, Value.null] [.int v3] h1
  refine ow_if_ne (tgt := 12) C dX7_wires_7 (by decide) hh (fun hh => ?_) (fun hh => ?_)
  · skip
    refine ow_aload_n C dX7_wires_12 rfl rfl ?_
    refine ow_getR (ci := 6) (k := 0) (T := TX7) C rfl igX7 (by decide) kw_533 dX7_wires_13 hh (fun q4 hh => ?_)
    refine ow_iconst (v := 0) C dX7_wires_16 rfl ?_
    refine ow_iaload C dX7_wires_17 hh (fun v5 hh => ?_)
    refine ow_istore_n (L' := [.ref p0, .int x1, .int v5]) C dX7_wires_18 rfl (by decide) rfl ?_
    refine ow_aload_n C dX7_wires_19 rfl rfl ?_
    refine ow_iload_n C dX7_wires_20 rfl rfl ?_
    refine ow_callV C (cv_X7_clear _) (Nat.le_of_ble_eq_true rfl) kw_558 dX7_wires_21 (as := [.int x1]) (st := []) rfl rfl (Nat.le_of_ble_eq_true rfl) hh (fun r7 h6 hq => ?_)
    obtain ⟨rfl, hh⟩ := sr_V_e hq
    show Sat X 24 [.ref p0, .int x1, .int v5] [] h6
    refine ow_iload_n C dX7_wires_24 rfl rfl ?_
    exact ow_iret Z dX7_wires_25 trivial hh
  · skip
    refine ow_iconst (v := (-1)) C dX7_wires_10 rfl ?_
    exact ow_iret Z dX7_wires_11 trivial hh
def tr_X7_wires : aw_T := fun as h Q => ∃ (p0 : Nat) (x1 : Int32), as = [.ref p0, .int x1] ∧ (sm_X7_wires_0  Q p0 x1 h)
theorem tq_X7_wires {p0 : Nat} {x1 : Int32} {h : aw_H} {Q : aw_R} : tr_X7_wires [.ref p0, .int x1] h Q ↔ (sm_X7_wires_0  Q p0 x1 h) := by
  constructor
  · rintro ⟨_, _, as0, hh⟩
    cases as0
    exact hh
  · intro hh
    exact ⟨_, _, rfl, hh⟩
theorem ct_X7_wires (E : aw_F) : CT E yX7_wires cX7_wires 3 (some .int) 1 tr_X7_wires := by
  refine ct_of (by decide) ?_
  intro X Q as h hE C Z hG
  subst hE
  obtain ⟨p0, x1, rfl, hh⟩ := hG
  refine ⟨[.ref p0, .int x1, Value.null], rfl, Nat.le_of_ble_eq_true rfl, ?_⟩
  exact bl_X7_wires_0 C Z p0 x1 h hh
theorem cv_X7_wires (E : aw_F) : CV E yX7_wires cX7_wires 3 (some .int) 1 1 6 tr_X7_wires := ⟨ct_X7_wires E, by decide, kw_560, kw_561, kw_527, kw_559, by decide +kernel, _, _, rfl⟩
theorem dX7_put_0 : decode cX7_put 0 = .ok (.aload_n 0, 1) := by decide +kernel
theorem dX7_put_1 : decode cX7_put 1 = .ok (.getfield 7, 3) := by decide +kernel
theorem dX7_put_4 : decode cX7_put 4 = .ok (.iconst 1, 1) := by decide +kernel
theorem dX7_put_5 : decode cX7_put 5 = .ok (.iaload, 1) := by decide +kernel
theorem dX7_put_6 : decode cX7_put 6 = .ok (.istore 6, 2) := by decide +kernel
theorem dX7_put_8 : decode cX7_put 8 = .ok (.iconst 5, 1) := by decide +kernel
theorem dX7_put_9 : decode cX7_put 9 = .ok (.iconst 5, 1) := by decide +kernel
theorem dX7_put_10 : decode cX7_put 10 = .ok (.iload 6, 2) := by decide +kernel
theorem dX7_put_12 : decode cX7_put 12 = .ok (.imul, 1) := by decide +kernel
theorem dX7_put_13 : decode cX7_put 13 = .ok (.iadd, 1) := by decide +kernel
theorem dX7_put_14 : decode cX7_put 14 = .ok (.istore 7, 2) := by decide +kernel
theorem dX7_put_16 : decode cX7_put 16 = .ok (.aload_n 0, 1) := by decide +kernel
theorem dX7_put_17 : decode cX7_put 17 = .ok (.getfield 7, 3) := by decide +kernel
theorem dX7_put_20 : decode cX7_put 20 = .ok (.iload 7, 2) := by decide +kernel
theorem dX7_put_22 : decode cX7_put 22 = .ok (.iload_n 1, 1) := by decide +kernel
theorem dX7_put_23 : decode cX7_put 23 = .ok (.iastore, 1) := by decide +kernel
theorem dX7_put_24 : decode cX7_put 24 = .ok (.aload_n 0, 1) := by decide +kernel
theorem dX7_put_25 : decode cX7_put 25 = .ok (.getfield 7, 3) := by decide +kernel
theorem dX7_put_28 : decode cX7_put 28 = .ok (.iload 7, 2) := by decide +kernel
theorem dX7_put_30 : decode cX7_put 30 = .ok (.iconst 1, 1) := by decide +kernel
theorem dX7_put_31 : decode cX7_put 31 = .ok (.iadd, 1) := by decide +kernel
theorem dX7_put_32 : decode cX7_put 32 = .ok (.iload_n 2, 1) := by decide +kernel
theorem dX7_put_33 : decode cX7_put 33 = .ok (.iastore, 1) := by decide +kernel
theorem dX7_put_34 : decode cX7_put 34 = .ok (.aload_n 0, 1) := by decide +kernel
theorem dX7_put_35 : decode cX7_put 35 = .ok (.getfield 7, 3) := by decide +kernel
theorem dX7_put_38 : decode cX7_put 38 = .ok (.iload 7, 2) := by decide +kernel
theorem dX7_put_40 : decode cX7_put 40 = .ok (.iconst 2, 1) := by decide +kernel
theorem dX7_put_41 : decode cX7_put 41 = .ok (.iadd, 1) := by decide +kernel
theorem dX7_put_42 : decode cX7_put 42 = .ok (.iload_n 3, 1) := by decide +kernel
theorem dX7_put_43 : decode cX7_put 43 = .ok (.iastore, 1) := by decide +kernel
theorem dX7_put_44 : decode cX7_put 44 = .ok (.aload_n 0, 1) := by decide +kernel
theorem dX7_put_45 : decode cX7_put 45 = .ok (.getfield 7, 3) := by decide +kernel
theorem dX7_put_48 : decode cX7_put 48 = .ok (.iload 7, 2) := by decide +kernel
theorem dX7_put_50 : decode cX7_put 50 = .ok (.iconst 3, 1) := by decide +kernel
theorem dX7_put_51 : decode cX7_put 51 = .ok (.iadd, 1) := by decide +kernel
theorem dX7_put_52 : decode cX7_put 52 = .ok (.iload 4, 2) := by decide +kernel
theorem dX7_put_54 : decode cX7_put 54 = .ok (.iastore, 1) := by decide +kernel
theorem dX7_put_55 : decode cX7_put 55 = .ok (.aload_n 0, 1) := by decide +kernel
theorem dX7_put_56 : decode cX7_put 56 = .ok (.getfield 7, 3) := by decide +kernel
theorem dX7_put_59 : decode cX7_put 59 = .ok (.iload 7, 2) := by decide +kernel
theorem dX7_put_61 : decode cX7_put 61 = .ok (.iconst 4, 1) := by decide +kernel
theorem dX7_put_62 : decode cX7_put 62 = .ok (.iadd, 1) := by decide +kernel
theorem dX7_put_63 : decode cX7_put 63 = .ok (.iload 5, 2) := by decide +kernel
theorem dX7_put_65 : decode cX7_put 65 = .ok (.iastore, 1) := by decide +kernel
theorem dX7_put_66 : decode cX7_put 66 = .ok (.aload_n 0, 1) := by decide +kernel
theorem dX7_put_67 : decode cX7_put 67 = .ok (.getfield 7, 3) := by decide +kernel
theorem dX7_put_70 : decode cX7_put 70 = .ok (.iconst 1, 1) := by decide +kernel
theorem dX7_put_71 : decode cX7_put 71 = .ok (.dup2, 1) := by decide +kernel
theorem dX7_put_72 : decode cX7_put 72 = .ok (.iaload, 1) := by decide +kernel
theorem dX7_put_73 : decode cX7_put 73 = .ok (.iconst 1, 1) := by decide +kernel
theorem dX7_put_74 : decode cX7_put 74 = .ok (.iadd, 1) := by decide +kernel
theorem dX7_put_75 : decode cX7_put 75 = .ok (.iastore, 1) := by decide +kernel
theorem dX7_put_76 : decode cX7_put 76 = .ok (.aload_n 0, 1) := by decide +kernel
theorem dX7_put_77 : decode cX7_put 77 = .ok (.getfield 7, 3) := by decide +kernel
theorem dX7_put_80 : decode cX7_put 80 = .ok (.sipush 765, 3) := by decide +kernel
theorem dX7_put_83 : decode cX7_put 83 = .ok (.iconst 0, 1) := by decide +kernel
theorem dX7_put_84 : decode cX7_put 84 = .ok (.iastore, 1) := by decide +kernel
theorem dX7_put_85 : decode cX7_put 85 = .ok (.iload 6, 2) := by decide +kernel
theorem dX7_put_87 : decode cX7_put 87 = .ok (.ireturn, 1) := by decide +kernel
def sm_X7_put_0  (Q : aw_R) (p0 : Nat) (x1 : Int32) (x2 : Int32) (x3 : Int32) (x4 : Int32) (x5 : Int32) (h : aw_H) : Prop :=
  sg_R h p0 6 0 fun q1 => sa_I h q1 1 fun v2 => sg_R h p0 6 0 fun q3 => ss_I h q3 (5 + (5 * v2)) x1 fun h4 => sg_R h4 p0 6 0 fun q5 => ss_I h4 q5 ((5 + (5 * v2)) + 1) x2 fun h6 => sg_R h6 p0 6 0 fun q7 => ss_I h6 q7 ((5 + (5 * v2)) + 2) x3 fun h8 => sg_R h8 p0 6 0 fun q9 => ss_I h8 q9 ((5 + (5 * v2)) + 3) x4 fun h10 => sg_R h10 p0 6 0 fun q11 => ss_I h10 q11 ((5 + (5 * v2)) + 4) x5 fun h12 => sg_R h12 p0 6 0 fun q13 => sa_I h12 q13 1 fun v14 => ss_I h12 q13 1 (v14 + 1) fun h15 => sg_R h15 p0 6 0 fun q16 => ss_I h15 q16 765 0 fun h17 => Q (some (.int v2)) h17
set_option maxRecDepth 100000 in
set_option maxHeartbeats 4000000 in
theorem bl_X7_put_0 {X : aw_X} {Q : aw_R} (C : aw_C X cX7_put RX7 8 0) (Z : aw_Z X cX7_put (some .int) Q) (p0 : Nat) (x1 : Int32) (x2 : Int32) (x3 : Int32) (x4 : Int32) (x5 : Int32) (h : aw_H) (hh : sm_X7_put_0  Q p0 x1 x2 x3 x4 x5 h) : Sat X 0 [.ref p0, .int x1, .int x2, .int x3, .int x4, .int x5, Value.null, Value.null] [] h := by
  unfold sm_X7_put_0 at hh
  refine ow_aload_n C dX7_put_0 rfl rfl ?_
  refine ow_getR (ci := 6) (k := 0) (T := TX7) C rfl igX7 (by decide) kw_533 dX7_put_1 hh (fun q1 hh => ?_)
  refine ow_iconst (v := 1) C dX7_put_4 rfl ?_
  refine ow_iaload C dX7_put_5 hh (fun v2 hh => ?_)
  refine ow_istore (L' := [.ref p0, .int x1, .int x2, .int x3, .int x4, .int x5, .int v2, Value.null]) C dX7_put_6 (by decide) rfl ?_
  refine ow_iconst (v := 5) C dX7_put_8 rfl ?_
  refine ow_iconst (v := 5) C dX7_put_9 rfl ?_
  refine ow_iload C dX7_put_10 rfl ?_
  refine ow_imul C dX7_put_12 ?_
  refine ow_iadd C dX7_put_13 ?_
  refine ow_istore (L' := [.ref p0, .int x1, .int x2, .int x3, .int x4, .int x5, .int v2, .int (5 + (5 * v2))]) C dX7_put_14 (by decide) rfl ?_
  refine ow_aload_n C dX7_put_16 rfl rfl ?_
  refine ow_getR (ci := 6) (k := 0) (T := TX7) C rfl igX7 (by decide) kw_533 dX7_put_17 hh (fun q3 hh => ?_)
  refine ow_iload C dX7_put_20 rfl ?_
  refine ow_iload_n C dX7_put_22 rfl rfl ?_
  refine ow_iastore C dX7_put_23 hh (fun h4 hh => ?_)
  refine ow_aload_n C dX7_put_24 rfl rfl ?_
  refine ow_getR (ci := 6) (k := 0) (T := TX7) C rfl igX7 (by decide) kw_533 dX7_put_25 hh (fun q5 hh => ?_)
  refine ow_iload C dX7_put_28 rfl ?_
  refine ow_iconst (v := 1) C dX7_put_30 rfl ?_
  refine ow_iadd C dX7_put_31 ?_
  refine ow_iload_n C dX7_put_32 rfl rfl ?_
  refine ow_iastore C dX7_put_33 hh (fun h6 hh => ?_)
  refine ow_aload_n C dX7_put_34 rfl rfl ?_
  refine ow_getR (ci := 6) (k := 0) (T := TX7) C rfl igX7 (by decide) kw_533 dX7_put_35 hh (fun q7 hh => ?_)
  refine ow_iload C dX7_put_38 rfl ?_
  refine ow_iconst (v := 2) C dX7_put_40 rfl ?_
  refine ow_iadd C dX7_put_41 ?_
  refine ow_iload_n C dX7_put_42 rfl rfl ?_
  refine ow_iastore C dX7_put_43 hh (fun h8 hh => ?_)
  refine ow_aload_n C dX7_put_44 rfl rfl ?_
  refine ow_getR (ci := 6) (k := 0) (T := TX7) C rfl igX7 (by decide) kw_533 dX7_put_45 hh (fun q9 hh => ?_)
  refine ow_iload C dX7_put_48 rfl ?_
  refine ow_iconst (v := 3) C dX7_put_50 rfl ?_
  refine ow_iadd C dX7_put_51 ?_
  refine ow_iload C dX7_put_52 rfl ?_
  refine ow_iastore C dX7_put_54 hh (fun h10 hh => ?_)
  refine ow_aload_n C dX7_put_55 rfl rfl ?_
  refine ow_getR (ci := 6) (k := 0) (T := TX7) C rfl igX7 (by decide) kw_533 dX7_put_56 hh (fun q11 hh => ?_)
  refine ow_iload C dX7_put_59 rfl ?_
  refine ow_iconst (v := 4) C dX7_put_61 rfl ?_
  refine ow_iadd C dX7_put_62 ?_
  refine ow_iload C dX7_put_63 rfl ?_
  refine ow_iastore C dX7_put_65 hh (fun h12 hh => ?_)
  refine ow_aload_n C dX7_put_66 rfl rfl ?_
  refine ow_getR (ci := 6) (k := 0) (T := TX7) C rfl igX7 (by decide) kw_533 dX7_put_67 hh (fun q13 hh => ?_)
  refine ow_iconst (v := 1) C dX7_put_70 rfl ?_
  refine ow_dup2 C dX7_put_71 rfl rfl ?_
  refine ow_iaload C dX7_put_72 hh (fun v14 hh => ?_)
  refine ow_iconst (v := 1) C dX7_put_73 rfl ?_
  refine ow_iadd C dX7_put_74 ?_
  refine ow_iastore C dX7_put_75 hh (fun h15 hh => ?_)
  refine ow_aload_n C dX7_put_76 rfl rfl ?_
  refine ow_getR (ci := 6) (k := 0) (T := TX7) C rfl igX7 (by decide) kw_533 dX7_put_77 hh (fun q16 hh => ?_)
  refine ow_sipush (v := 765) C dX7_put_80 rfl ?_
  refine ow_iconst (v := 0) C dX7_put_83 rfl ?_
  refine ow_iastore C dX7_put_84 hh (fun h17 hh => ?_)
  refine ow_iload C dX7_put_85 rfl ?_
  exact ow_iret Z dX7_put_87 trivial hh
def tr_X7_put : aw_T := fun as h Q => ∃ (p0 : Nat) (x1 : Int32) (x2 : Int32) (x3 : Int32) (x4 : Int32) (x5 : Int32), as = [.ref p0, .int x1, .int x2, .int x3, .int x4, .int x5] ∧ (sm_X7_put_0  Q p0 x1 x2 x3 x4 x5 h)
theorem tq_X7_put {p0 : Nat} {x1 : Int32} {x2 : Int32} {x3 : Int32} {x4 : Int32} {x5 : Int32} {h : aw_H} {Q : aw_R} : tr_X7_put [.ref p0, .int x1, .int x2, .int x3, .int x4, .int x5] h Q ↔ (sm_X7_put_0  Q p0 x1 x2 x3 x4 x5 h) := by
  constructor
  · rintro ⟨_, _, _, _, _, _, as0, hh⟩
    cases as0
    exact hh
  · intro hh
    exact ⟨_, _, _, _, _, _, rfl, hh⟩
theorem ct_X7_put (E : aw_F) : CT E yX7_put cX7_put 8 (some .int) 0 tr_X7_put := by
  refine ct_of (by decide) ?_
  intro X Q as h hE C Z hG
  subst hE
  obtain ⟨p0, x1, x2, x3, x4, x5, rfl, hh⟩ := hG
  refine ⟨[.ref p0, .int x1, .int x2, .int x3, .int x4, .int x5, Value.null, Value.null], rfl, Nat.le_of_ble_eq_true rfl, ?_⟩
  exact bl_X7_put_0 C Z p0 x1 x2 x3 x4 x5 h hh
theorem cv_X7_put (E : aw_F) : CV E yX7_put cX7_put 8 (some .int) 0 5 6 tr_X7_put := ⟨ct_X7_put E, by decide, kw_563, kw_564, kw_527, kw_562, by decide +kernel, _, _, rfl⟩
theorem dX7_gate_0 : decode cX7_gate 0 = .ok (.iload_n 1, 1) := by decide +kernel
theorem dX7_gate_1 : decode cX7_gate 1 = .ok (.iconst 0, 1) := by decide +kernel
theorem dX7_gate_2 : decode cX7_gate 2 = .ok (.iconst 4, 1) := by decide +kernel
theorem dX7_gate_3 : decode cX7_gate 3 = .ok (.invokestatic 42, 3) := by decide +kernel
theorem dX7_gate_6 : decode cX7_gate 6 = .ok (.ifCond .eq 28, 3) := by decide +kernel
theorem dX7_gate_9 : decode cX7_gate 9 = .ok (.aload_n 0, 1) := by decide +kernel
theorem dX7_gate_10 : decode cX7_gate 10 = .ok (.iload_n 2, 1) := by decide +kernel
theorem dX7_gate_11 : decode cX7_gate 11 = .ok (.invokevirtual 50, 3) := by decide +kernel
theorem dX7_gate_14 : decode cX7_gate 14 = .ok (.ifCond .eq 20, 3) := by decide +kernel
theorem dX7_gate_17 : decode cX7_gate 17 = .ok (.aload_n 0, 1) := by decide +kernel
theorem dX7_gate_18 : decode cX7_gate 18 = .ok (.iload_n 3, 1) := by decide +kernel
theorem dX7_gate_19 : decode cX7_gate 19 = .ok (.invokevirtual 50, 3) := by decide +kernel
theorem dX7_gate_22 : decode cX7_gate 22 = .ok (.ifCond .eq 12, 3) := by decide +kernel
theorem dX7_gate_25 : decode cX7_gate 25 = .ok (.aload_n 0, 1) := by decide +kernel
theorem dX7_gate_26 : decode cX7_gate 26 = .ok (.iload 4, 2) := by decide +kernel
theorem dX7_gate_28 : decode cX7_gate 28 = .ok (.invokevirtual 50, 3) := by decide +kernel
theorem dX7_gate_31 : decode cX7_gate 31 = .ok (.ifCond .ne 5, 3) := by decide +kernel
theorem dX7_gate_34 : decode cX7_gate 34 = .ok (.iconst (-1), 1) := by decide +kernel
theorem dX7_gate_35 : decode cX7_gate 35 = .ok (.ireturn, 1) := by decide +kernel
theorem dX7_gate_36 : decode cX7_gate 36 = .ok (.iload_n 1, 1) := by decide +kernel
theorem dX7_gate_37 : decode cX7_gate 37 = .ok (.invokestatic 54, 3) := by decide +kernel
theorem dX7_gate_40 : decode cX7_gate 40 = .ok (.istore 5, 2) := by decide +kernel
theorem dX7_gate_42 : decode cX7_gate 42 = .ok (.iload 5, 2) := by decide +kernel
theorem dX7_gate_44 : decode cX7_gate 44 = .ok (.iload_n 2, 1) := by decide +kernel
theorem dX7_gate_45 : decode cX7_gate 45 = .ok (.iload_n 3, 1) := by decide +kernel
theorem dX7_gate_46 : decode cX7_gate 46 = .ok (.iload 4, 2) := by decide +kernel
theorem dX7_gate_48 : decode cX7_gate 48 = .ok (.invokestatic 58, 3) := by decide +kernel
theorem dX7_gate_51 : decode cX7_gate 51 = .ok (.ifCond .eq 24, 3) := by decide +kernel
theorem dX7_gate_54 : decode cX7_gate 54 = .ok (.iload 5, 2) := by decide +kernel
theorem dX7_gate_56 : decode cX7_gate 56 = .ok (.iconst 3, 1) := by decide +kernel
theorem dX7_gate_57 : decode cX7_gate 57 = .ok (.if_icmp .ge 8, 3) := by decide +kernel
theorem dX7_gate_60 : decode cX7_gate 60 = .ok (.iload 4, 2) := by decide +kernel
theorem dX7_gate_62 : decode cX7_gate 62 = .ok (.ifCond .ne 13, 3) := by decide +kernel
theorem dX7_gate_65 : decode cX7_gate 65 = .ok (.iload 5, 2) := by decide +kernel
theorem dX7_gate_67 : decode cX7_gate 67 = .ok (.iconst 2, 1) := by decide +kernel
theorem dX7_gate_68 : decode cX7_gate 68 = .ok (.if_icmp .ge 9, 3) := by decide +kernel
theorem dX7_gate_71 : decode cX7_gate 71 = .ok (.iload_n 3, 1) := by decide +kernel
theorem dX7_gate_72 : decode cX7_gate 72 = .ok (.ifCond .eq 5, 3) := by decide +kernel
theorem dX7_gate_75 : decode cX7_gate 75 = .ok (.iconst (-1), 1) := by decide +kernel
theorem dX7_gate_76 : decode cX7_gate 76 = .ok (.ireturn, 1) := by decide +kernel
theorem dX7_gate_77 : decode cX7_gate 77 = .ok (.aload_n 0, 1) := by decide +kernel
theorem dX7_gate_78 : decode cX7_gate 78 = .ok (.getfield 7, 3) := by decide +kernel
theorem dX7_gate_81 : decode cX7_gate 81 = .ok (.iconst 1, 1) := by decide +kernel
theorem dX7_gate_82 : decode cX7_gate 82 = .ok (.iaload, 1) := by decide +kernel
theorem dX7_gate_83 : decode cX7_gate 83 = .ok (.bipush 16, 2) := by decide +kernel
theorem dX7_gate_85 : decode cX7_gate 85 = .ok (.if_icmp .ne 8, 3) := by decide +kernel
theorem dX7_gate_88 : decode cX7_gate 88 = .ok (.bipush (-3), 2) := by decide +kernel
theorem dX7_gate_90 : decode cX7_gate 90 = .ok (.goto 13, 3) := by decide +kernel
theorem dX7_gate_93 : decode cX7_gate 93 = .ok (.aload_n 0, 1) := by decide +kernel
theorem dX7_gate_94 : decode cX7_gate 94 = .ok (.iload_n 1, 1) := by decide +kernel
theorem dX7_gate_95 : decode cX7_gate 95 = .ok (.iload_n 2, 1) := by decide +kernel
theorem dX7_gate_96 : decode cX7_gate 96 = .ok (.iload_n 3, 1) := by decide +kernel
theorem dX7_gate_97 : decode cX7_gate 97 = .ok (.iload 4, 2) := by decide +kernel
theorem dX7_gate_99 : decode cX7_gate 99 = .ok (.iconst 0, 1) := by decide +kernel
theorem dX7_gate_100 : decode cX7_gate 100 = .ok (.invokevirtual 62, 3) := by decide +kernel
theorem dX7_gate_103 : decode cX7_gate 103 = .ok (.ireturn, 1) := by decide +kernel
def sm_X7_gate_77  (Q : aw_R) (p0 : Nat) (x1 : Int32) (x2 : Int32) (x3 : Int32) (x4 : Int32) (h : aw_H) : Prop :=
  sg_R h p0 6 0 fun q1 => sa_I h q1 1 fun v2 => if ¬ v2 = 16 then (sv_O h p0 6 (tr_X7_put [.ref p0, .int x1, .int x2, .int x3, .int x4, .int 0] h fun r4 h3 => sr_I r4 fun v5 => Q (some (.int v5)) h3)) else (Q (some (.int ((-3)))) h)
set_option maxRecDepth 100000 in
set_option maxHeartbeats 4000000 in
theorem bl_X7_gate_77 {X : aw_X} {Q : aw_R} (C : aw_C X cX7_gate RX7 6 2) (Z : aw_Z X cX7_gate (some .int) Q) (p0 : Nat) (x1 : Int32) (x2 : Int32) (x3 : Int32) (x4 : Int32) (h : aw_H) (hh : sm_X7_gate_77  Q p0 x1 x2 x3 x4 h) : Sat X 77 [.ref p0, .int x1, .int x2, .int x3, .int x4, Value.null] [] h := by
  unfold sm_X7_gate_77 at hh
  refine ow_aload_n C dX7_gate_77 rfl rfl ?_
  refine ow_getR (ci := 6) (k := 0) (T := TX7) C rfl igX7 (by decide) kw_533 dX7_gate_78 hh (fun q1 hh => ?_)
  refine ow_iconst (v := 1) C dX7_gate_81 rfl ?_
  refine ow_iaload C dX7_gate_82 hh (fun v2 hh => ?_)
  refine ow_bipush (v := 16) C dX7_gate_83 rfl ?_
  refine ow_icmp_ne (tgt := 93) C dX7_gate_85 (by decide) hh (fun hh => ?_) (fun hh => ?_)
  · skip
    refine ow_aload_n C dX7_gate_93 rfl rfl ?_
    refine ow_iload_n C dX7_gate_94 rfl rfl ?_
    refine ow_iload_n C dX7_gate_95 rfl rfl ?_
    refine ow_iload_n C dX7_gate_96 rfl rfl ?_
    refine ow_iload C dX7_gate_97 rfl ?_
    refine ow_iconst (v := 0) C dX7_gate_99 rfl ?_
    refine ow_callV C (cv_X7_put _) (Nat.le_of_ble_eq_true rfl) kw_565 dX7_gate_100 (as := [.int x1, .int x2, .int x3, .int x4, .int 0]) (st := []) rfl rfl (Nat.le_of_ble_eq_true rfl) hh (fun r4 h3 hq => ?_)
    obtain ⟨v5, rfl, hh⟩ := sr_I_e hq
    show Sat X 103 [.ref p0, .int x1, .int x2, .int x3, .int x4, Value.null] [.int v5] h3
    exact ow_iret Z dX7_gate_103 trivial hh
  · skip
    refine ow_bipush (v := (-3)) C dX7_gate_88 rfl ?_
    refine ow_goto (tgt := 103) C dX7_gate_90 (by decide) ?_
    exact ow_iret Z dX7_gate_103 trivial hh
def sm_X7_gate_0  (Q : aw_R) (p0 : Nat) (x1 : Int32) (x2 : Int32) (x3 : Int32) (x4 : Int32) (h : aw_H) : Prop :=
  tr_X7_in [.int x1, .int 0, .int 4] h fun r2 h1 => sr_I r2 fun v3 => if v3 = 0 then (Q (some (.int ((-1)))) h1) else (sv_O h1 p0 6 (tr_X7_isWire [.ref p0, .int x2] h1 fun r5 h4 => sr_I r5 fun v6 => if v6 = 0 then (Q (some (.int ((-1)))) h4) else (sv_O h4 p0 6 (tr_X7_isWire [.ref p0, .int x3] h4 fun r8 h7 => sr_I r8 fun v9 => if v9 = 0 then (Q (some (.int ((-1)))) h7) else (sv_O h7 p0 6 (tr_X7_isWire [.ref p0, .int x4] h7 fun r11 h10 => sr_I r11 fun v12 => if ¬ v12 = 0 then (tr_X7_wiresOf [.int x1] h10 fun r14 h13 => sr_I r14 fun v15 => tr_X7_areUnlike [.int v15, .int x2, .int x3, .int x4] h13 fun r17 h16 => sr_I r17 fun v18 => if v18 = 0 then (Q (some (.int ((-1)))) h16) else (if 3 ≤ v15 then (if 2 ≤ v15 then (sm_X7_gate_77  Q p0 x1 x2 x3 x4 h16) else (if x3 = 0 then (sm_X7_gate_77  Q p0 x1 x2 x3 x4 h16) else (Q (some (.int ((-1)))) h16))) else (if ¬ x4 = 0 then (Q (some (.int ((-1)))) h16) else (if 2 ≤ v15 then (sm_X7_gate_77  Q p0 x1 x2 x3 x4 h16) else (if x3 = 0 then (sm_X7_gate_77  Q p0 x1 x2 x3 x4 h16) else (Q (some (.int ((-1)))) h16)))))) else (Q (some (.int ((-1)))) h10)))))))
set_option maxRecDepth 100000 in
set_option maxHeartbeats 4000000 in
theorem bl_X7_gate_0 {X : aw_X} {Q : aw_R} (C : aw_C X cX7_gate RX7 6 2) (Z : aw_Z X cX7_gate (some .int) Q) (p0 : Nat) (x1 : Int32) (x2 : Int32) (x3 : Int32) (x4 : Int32) (h : aw_H) (hh : sm_X7_gate_0  Q p0 x1 x2 x3 x4 h) : Sat X 0 [.ref p0, .int x1, .int x2, .int x3, .int x4, Value.null] [] h := by
  unfold sm_X7_gate_0 at hh
  refine ow_iload_n C dX7_gate_0 rfl rfl ?_
  refine ow_iconst (v := 0) C dX7_gate_1 rfl ?_
  refine ow_iconst (v := 4) C dX7_gate_2 rfl ?_
  refine ow_callS C (cs_X7_in _) (Nat.le_of_ble_eq_true rfl) kw_541 dX7_gate_3 (as := [.int x1, .int 0, .int 4]) (st := []) rfl rfl (Nat.le_of_ble_eq_true rfl) hh (fun r2 h1 hq => ?_)
  obtain ⟨v3, rfl, hh⟩ := sr_I_e hq
  show Sat X 6 [.ref p0, .int x1, .int x2, .int x3, .int x4, Value.null] [.int v3] h1
  refine ow_if_eq (tgt := 34) C dX7_gate_6 (by decide) hh (fun hh => ?_) (fun hh => ?_)
  · skip
    refine ow_iconst (v := (-1)) C dX7_gate_34 rfl ?_
    exact ow_iret Z dX7_gate_35 trivial hh
  · skip
    refine ow_aload_n C dX7_gate_9 rfl rfl ?_
    refine ow_iload_n C dX7_gate_10 rfl rfl ?_
    refine ow_callV C (cv_X7_isWire _) (Nat.le_of_ble_eq_true rfl) kw_566 dX7_gate_11 (as := [.int x2]) (st := []) rfl rfl (Nat.le_of_ble_eq_true rfl) hh (fun r5 h4 hq => ?_)
    obtain ⟨v6, rfl, hh⟩ := sr_I_e hq
    show Sat X 14 [.ref p0, .int x1, .int x2, .int x3, .int x4, Value.null] [.int v6] h4
    refine ow_if_eq (tgt := 34) C dX7_gate_14 (by decide) hh (fun hh => ?_) (fun hh => ?_)
    · skip
      refine ow_iconst (v := (-1)) C dX7_gate_34 rfl ?_
      exact ow_iret Z dX7_gate_35 trivial hh
    · skip
      refine ow_aload_n C dX7_gate_17 rfl rfl ?_
      refine ow_iload_n C dX7_gate_18 rfl rfl ?_
      refine ow_callV C (cv_X7_isWire _) (Nat.le_of_ble_eq_true rfl) kw_566 dX7_gate_19 (as := [.int x3]) (st := []) rfl rfl (Nat.le_of_ble_eq_true rfl) hh (fun r8 h7 hq => ?_)
      obtain ⟨v9, rfl, hh⟩ := sr_I_e hq
      show Sat X 22 [.ref p0, .int x1, .int x2, .int x3, .int x4, Value.null] [.int v9] h7
      refine ow_if_eq (tgt := 34) C dX7_gate_22 (by decide) hh (fun hh => ?_) (fun hh => ?_)
      · skip
        refine ow_iconst (v := (-1)) C dX7_gate_34 rfl ?_
        exact ow_iret Z dX7_gate_35 trivial hh
      · skip
        refine ow_aload_n C dX7_gate_25 rfl rfl ?_
        refine ow_iload C dX7_gate_26 rfl ?_
        refine ow_callV C (cv_X7_isWire _) (Nat.le_of_ble_eq_true rfl) kw_566 dX7_gate_28 (as := [.int x4]) (st := []) rfl rfl (Nat.le_of_ble_eq_true rfl) hh (fun r11 h10 hq => ?_)
        obtain ⟨v12, rfl, hh⟩ := sr_I_e hq
        show Sat X 31 [.ref p0, .int x1, .int x2, .int x3, .int x4, Value.null] [.int v12] h10
        refine ow_if_ne (tgt := 36) C dX7_gate_31 (by decide) hh (fun hh => ?_) (fun hh => ?_)
        · skip
          refine ow_iload_n C dX7_gate_36 rfl rfl ?_
          refine ow_callS C (cs_X7_wiresOf _) (Nat.le_of_ble_eq_true rfl) kw_567 dX7_gate_37 (as := [.int x1]) (st := []) rfl rfl (Nat.le_of_ble_eq_true rfl) hh (fun r14 h13 hq => ?_)
          obtain ⟨v15, rfl, hh⟩ := sr_I_e hq
          show Sat X 40 [.ref p0, .int x1, .int x2, .int x3, .int x4, Value.null] [.int v15] h13
          refine ow_istore (L' := [.ref p0, .int x1, .int x2, .int x3, .int x4, .int v15]) C dX7_gate_40 (by decide) rfl ?_
          refine ow_iload C dX7_gate_42 rfl ?_
          refine ow_iload_n C dX7_gate_44 rfl rfl ?_
          refine ow_iload_n C dX7_gate_45 rfl rfl ?_
          refine ow_iload C dX7_gate_46 rfl ?_
          refine ow_callS C (cs_X7_areUnlike _) (Nat.le_of_ble_eq_true rfl) kw_568 dX7_gate_48 (as := [.int v15, .int x2, .int x3, .int x4]) (st := []) rfl rfl (Nat.le_of_ble_eq_true rfl) hh (fun r17 h16 hq => ?_)
          obtain ⟨v18, rfl, hh⟩ := sr_I_e hq
          show Sat X 51 [.ref p0, .int x1, .int x2, .int x3, .int x4, .int v15] [.int v18] h16
          refine ow_if_eq (tgt := 75) C dX7_gate_51 (by decide) hh (fun hh => ?_) (fun hh => ?_)
          · skip
            refine ow_iconst (v := (-1)) C dX7_gate_75 rfl ?_
            exact ow_iret Z dX7_gate_76 trivial hh
          · skip
            refine ow_iload C dX7_gate_54 rfl ?_
            refine ow_iconst (v := 3) C dX7_gate_56 rfl ?_
            refine ow_icmp_ge (tgt := 65) C dX7_gate_57 (by decide) hh (fun hh => ?_) (fun hh => ?_)
            · skip
              refine ow_iload C dX7_gate_65 rfl ?_
              refine ow_iconst (v := 2) C dX7_gate_67 rfl ?_
              refine ow_icmp_ge (tgt := 77) C dX7_gate_68 (by decide) hh (fun hh => ?_) (fun hh => ?_)
              · skip
                exact Sat.mask (bl_X7_gate_77 C Z p0 x1 x2 x3 x4 h16 hh) (mk_y (mk_y (mk_y (mk_y (mk_y (mk_n mk_0))))))
              · skip
                refine ow_iload_n C dX7_gate_71 rfl rfl ?_
                refine ow_if_eq (tgt := 77) C dX7_gate_72 (by decide) hh (fun hh => ?_) (fun hh => ?_)
                · skip
                  exact Sat.mask (bl_X7_gate_77 C Z p0 x1 x2 x3 x4 h16 hh) (mk_y (mk_y (mk_y (mk_y (mk_y (mk_n mk_0))))))
                · skip
                  refine ow_iconst (v := (-1)) C dX7_gate_75 rfl ?_
                  exact ow_iret Z dX7_gate_76 trivial hh
            · skip
              refine ow_iload C dX7_gate_60 rfl ?_
              refine ow_if_ne (tgt := 75) C dX7_gate_62 (by decide) hh (fun hh => ?_) (fun hh => ?_)
              · skip
                refine ow_iconst (v := (-1)) C dX7_gate_75 rfl ?_
                exact ow_iret Z dX7_gate_76 trivial hh
              · skip
                refine ow_iload C dX7_gate_65 rfl ?_
                refine ow_iconst (v := 2) C dX7_gate_67 rfl ?_
                refine ow_icmp_ge (tgt := 77) C dX7_gate_68 (by decide) hh (fun hh => ?_) (fun hh => ?_)
                · skip
                  exact Sat.mask (bl_X7_gate_77 C Z p0 x1 x2 x3 x4 h16 hh) (mk_y (mk_y (mk_y (mk_y (mk_y (mk_n mk_0))))))
                · skip
                  refine ow_iload_n C dX7_gate_71 rfl rfl ?_
                  refine ow_if_eq (tgt := 77) C dX7_gate_72 (by decide) hh (fun hh => ?_) (fun hh => ?_)
                  · skip
                    exact Sat.mask (bl_X7_gate_77 C Z p0 x1 x2 x3 x4 h16 hh) (mk_y (mk_y (mk_y (mk_y (mk_y (mk_n mk_0))))))
                  · skip
                    refine ow_iconst (v := (-1)) C dX7_gate_75 rfl ?_
                    exact ow_iret Z dX7_gate_76 trivial hh
        · skip
          refine ow_iconst (v := (-1)) C dX7_gate_34 rfl ?_
          exact ow_iret Z dX7_gate_35 trivial hh
def tr_X7_gate : aw_T := fun as h Q => ∃ (p0 : Nat) (x1 : Int32) (x2 : Int32) (x3 : Int32) (x4 : Int32), as = [.ref p0, .int x1, .int x2, .int x3, .int x4] ∧ (sm_X7_gate_0  Q p0 x1 x2 x3 x4 h)
theorem tq_X7_gate {p0 : Nat} {x1 : Int32} {x2 : Int32} {x3 : Int32} {x4 : Int32} {h : aw_H} {Q : aw_R} : tr_X7_gate [.ref p0, .int x1, .int x2, .int x3, .int x4] h Q ↔ (sm_X7_gate_0  Q p0 x1 x2 x3 x4 h) := by
  constructor
  · rintro ⟨_, _, _, _, _, as0, hh⟩
    cases as0
    exact hh
  · intro hh
    exact ⟨_, _, _, _, _, rfl, hh⟩
theorem ct_X7_gate (E : aw_F) : CT E yX7_gate cX7_gate 6 (some .int) 2 tr_X7_gate := by
  refine ct_of (by decide) ?_
  intro X Q as h hE C Z hG
  subst hE
  obtain ⟨p0, x1, x2, x3, x4, rfl, hh⟩ := hG
  refine ⟨[.ref p0, .int x1, .int x2, .int x3, .int x4, Value.null], rfl, Nat.le_of_ble_eq_true rfl, ?_⟩
  exact bl_X7_gate_0 C Z p0 x1 x2 x3 x4 h hh
theorem cv_X7_gate (E : aw_F) : CV E yX7_gate cX7_gate 6 (some .int) 2 4 6 tr_X7_gate := ⟨ct_X7_gate E, by decide, kw_570, kw_571, kw_527, kw_569, by decide +kernel, _, _, rfl⟩
theorem dX7_of_0 : decode cX7_of 0 = .ok (.aload_n 0, 1) := by decide +kernel
theorem dX7_of_1 : decode cX7_of 1 = .ok (.iload_n 1, 1) := by decide +kernel
theorem dX7_of_2 : decode cX7_of 2 = .ok (.invokevirtual 66, 3) := by decide +kernel
theorem dX7_of_5 : decode cX7_of 5 = .ok (.ifCond .eq 27, 3) := by decide +kernel
theorem dX7_of_8 : decode cX7_of 8 = .ok (.iload_n 2, 1) := by decide +kernel
theorem dX7_of_9 : decode cX7_of 9 = .ok (.iconst 0, 1) := by decide +kernel
theorem dX7_of_10 : decode cX7_of 10 = .ok (.iconst 4, 1) := by decide +kernel
theorem dX7_of_11 : decode cX7_of 11 = .ok (.invokestatic 42, 3) := by decide +kernel
theorem dX7_of_14 : decode cX7_of 14 = .ok (.ifCond .eq 18, 3) := by decide +kernel
theorem dX7_of_17 : decode cX7_of 17 = .ok (.aload_n 0, 1) := by decide +kernel
theorem dX7_of_18 : decode cX7_of 18 = .ok (.getfield 7, 3) := by decide +kernel
theorem dX7_of_21 : decode cX7_of 21 = .ok (.iconst 5, 1) := by decide +kernel
theorem dX7_of_22 : decode cX7_of 22 = .ok (.iconst 5, 1) := by decide +kernel
theorem dX7_of_23 : decode cX7_of 23 = .ok (.iload_n 1, 1) := by decide +kernel
theorem dX7_of_24 : decode cX7_of 24 = .ok (.imul, 1) := by decide +kernel
theorem dX7_of_25 : decode cX7_of 25 = .ok (.iadd, 1) := by decide +kernel
theorem dX7_of_26 : decode cX7_of 26 = .ok (.iload_n 2, 1) := by decide +kernel
theorem dX7_of_27 : decode cX7_of 27 = .ok (.iadd, 1) := by decide +kernel
theorem dX7_of_28 : decode cX7_of 28 = .ok (.iaload, 1) := by decide +kernel
theorem dX7_of_29 : decode cX7_of 29 = .ok (.goto 4, 3) := by decide +kernel
theorem dX7_of_32 : decode cX7_of 32 = .ok (.iconst (-1), 1) := by decide +kernel
theorem dX7_of_33 : decode cX7_of 33 = .ok (.ireturn, 1) := by decide +kernel
def sm_X7_of_0  (Q : aw_R) (p0 : Nat) (x1 : Int32) (x2 : Int32) (h : aw_H) : Prop :=
  sv_O h p0 6 (tr_X7_isGate [.ref p0, .int x1] h fun r2 h1 => sr_I r2 fun v3 => if v3 = 0 then (Q (some (.int ((-1)))) h1) else (tr_X7_in [.int x2, .int 0, .int 4] h1 fun r5 h4 => sr_I r5 fun v6 => if v6 = 0 then (Q (some (.int ((-1)))) h4) else (sg_R h4 p0 6 0 fun q7 => sa_I h4 q7 ((5 + (5 * x1)) + x2) fun v8 => Q (some (.int v8)) h4)))
set_option maxRecDepth 100000 in
set_option maxHeartbeats 4000000 in
theorem bl_X7_of_0 {X : aw_X} {Q : aw_R} (C : aw_C X cX7_of RX7 3 2) (Z : aw_Z X cX7_of (some .int) Q) (p0 : Nat) (x1 : Int32) (x2 : Int32) (h : aw_H) (hh : sm_X7_of_0  Q p0 x1 x2 h) : Sat X 0 [.ref p0, .int x1, .int x2] [] h := by
  unfold sm_X7_of_0 at hh
  refine ow_aload_n C dX7_of_0 rfl rfl ?_
  refine ow_iload_n C dX7_of_1 rfl rfl ?_
  refine ow_callV C (cv_X7_isGate _) (Nat.le_of_ble_eq_true rfl) kw_572 dX7_of_2 (as := [.int x1]) (st := []) rfl rfl (Nat.le_of_ble_eq_true rfl) hh (fun r2 h1 hq => ?_)
  obtain ⟨v3, rfl, hh⟩ := sr_I_e hq
  show Sat X 5 [.ref p0, .int x1, .int x2] [.int v3] h1
  refine ow_if_eq (tgt := 32) C dX7_of_5 (by decide) hh (fun hh => ?_) (fun hh => ?_)
  · skip
    refine ow_iconst (v := (-1)) C dX7_of_32 rfl ?_
    exact ow_iret Z dX7_of_33 trivial hh
  · skip
    refine ow_iload_n C dX7_of_8 rfl rfl ?_
    refine ow_iconst (v := 0) C dX7_of_9 rfl ?_
    refine ow_iconst (v := 4) C dX7_of_10 rfl ?_
    refine ow_callS C (cs_X7_in _) (Nat.le_of_ble_eq_true rfl) kw_541 dX7_of_11 (as := [.int x2, .int 0, .int 4]) (st := []) rfl rfl (Nat.le_of_ble_eq_true rfl) hh (fun r5 h4 hq => ?_)
    obtain ⟨v6, rfl, hh⟩ := sr_I_e hq
    show Sat X 14 [.ref p0, .int x1, .int x2] [.int v6] h4
    refine ow_if_eq (tgt := 32) C dX7_of_14 (by decide) hh (fun hh => ?_) (fun hh => ?_)
    · skip
      refine ow_iconst (v := (-1)) C dX7_of_32 rfl ?_
      exact ow_iret Z dX7_of_33 trivial hh
    · skip
      refine ow_aload_n C dX7_of_17 rfl rfl ?_
      refine ow_getR (ci := 6) (k := 0) (T := TX7) C rfl igX7 (by decide) kw_533 dX7_of_18 hh (fun q7 hh => ?_)
      refine ow_iconst (v := 5) C dX7_of_21 rfl ?_
      refine ow_iconst (v := 5) C dX7_of_22 rfl ?_
      refine ow_iload_n C dX7_of_23 rfl rfl ?_
      refine ow_imul C dX7_of_24 ?_
      refine ow_iadd C dX7_of_25 ?_
      refine ow_iload_n C dX7_of_26 rfl rfl ?_
      refine ow_iadd C dX7_of_27 ?_
      refine ow_iaload C dX7_of_28 hh (fun v8 hh => ?_)
      refine ow_goto (tgt := 33) C dX7_of_29 (by decide) ?_
      exact ow_iret Z dX7_of_33 trivial hh
def tr_X7_of : aw_T := fun as h Q => ∃ (p0 : Nat) (x1 : Int32) (x2 : Int32), as = [.ref p0, .int x1, .int x2] ∧ (sm_X7_of_0  Q p0 x1 x2 h)
theorem tq_X7_of {p0 : Nat} {x1 : Int32} {x2 : Int32} {h : aw_H} {Q : aw_R} : tr_X7_of [.ref p0, .int x1, .int x2] h Q ↔ (sm_X7_of_0  Q p0 x1 x2 h) := by
  constructor
  · rintro ⟨_, _, _, as0, hh⟩
    cases as0
    exact hh
  · intro hh
    exact ⟨_, _, _, rfl, hh⟩
theorem ct_X7_of (E : aw_F) : CT E yX7_of cX7_of 3 (some .int) 2 tr_X7_of := by
  refine ct_of (by decide) ?_
  intro X Q as h hE C Z hG
  subst hE
  obtain ⟨p0, x1, x2, rfl, hh⟩ := hG
  refine ⟨[.ref p0, .int x1, .int x2], rfl, Nat.le_of_ble_eq_true rfl, ?_⟩
  exact bl_X7_of_0 C Z p0 x1 x2 h hh
theorem cv_X7_of (E : aw_F) : CV E yX7_of cX7_of 3 (some .int) 2 2 6 tr_X7_of := ⟨ct_X7_of E, by decide, kw_574, kw_575, kw_527, kw_573, by decide +kernel, _, _, rfl⟩
theorem dX7_changed_0 : decode cX7_changed 0 = .ok (.iload_n 0, 1) := by decide +kernel
theorem dX7_changed_1 : decode cX7_changed 1 = .ok (.iload_n 1, 1) := by decide +kernel
theorem dX7_changed_2 : decode cX7_changed 2 = .ok (.invokestatic 69, 3) := by decide +kernel
theorem dX7_changed_5 : decode cX7_changed 5 = .ok (.iload_n 0, 1) := by decide +kernel
theorem dX7_changed_6 : decode cX7_changed 6 = .ok (.iload_n 2, 1) := by decide +kernel
theorem dX7_changed_7 : decode cX7_changed 7 = .ok (.invokestatic 69, 3) := by decide +kernel
theorem dX7_changed_10 : decode cX7_changed 10 = .ok (.if_icmp .ne 7, 3) := by decide +kernel
theorem dX7_changed_13 : decode cX7_changed 13 = .ok (.iconst 1, 1) := by decide +kernel
theorem dX7_changed_14 : decode cX7_changed 14 = .ok (.goto 4, 3) := by decide +kernel
theorem dX7_changed_17 : decode cX7_changed 17 = .ok (.iconst 0, 1) := by decide +kernel
theorem dX7_changed_18 : decode cX7_changed 18 = .ok (.istore_n 3, 1) := by decide +kernel
theorem dX7_changed_19 : decode cX7_changed 19 = .ok (.iload_n 3, 1) := by decide +kernel
theorem dX7_changed_20 : decode cX7_changed 20 = .ok (.ifCond .eq 7, 3) := by decide +kernel
theorem dX7_changed_23 : decode cX7_changed 23 = .ok (.iload_n 0, 1) := by decide +kernel
theorem dX7_changed_24 : decode cX7_changed 24 = .ok (.goto 12, 3) := by decide +kernel
theorem dX7_changed_27 : decode cX7_changed 27 = .ok (.iload_n 0, 1) := by decide +kernel
theorem dX7_changed_28 : decode cX7_changed 28 = .ok (.iconst 1, 1) := by decide +kernel
theorem dX7_changed_29 : decode cX7_changed 29 = .ok (.iload_n 1, 1) := by decide +kernel
theorem dX7_changed_30 : decode cX7_changed 30 = .ok (.ishl, 1) := by decide +kernel
theorem dX7_changed_31 : decode cX7_changed 31 = .ok (.iconst 1, 1) := by decide +kernel
theorem dX7_changed_32 : decode cX7_changed 32 = .ok (.iload_n 2, 1) := by decide +kernel
theorem dX7_changed_33 : decode cX7_changed 33 = .ok (.ishl, 1) := by decide +kernel
theorem dX7_changed_34 : decode cX7_changed 34 = .ok (.ior, 1) := by decide +kernel
theorem dX7_changed_35 : decode cX7_changed 35 = .ok (.ixor, 1) := by decide +kernel
theorem dX7_changed_36 : decode cX7_changed 36 = .ok (.ireturn, 1) := by decide +kernel
def sm_X7_changed_18  (Q : aw_R) (x0 : Int32) (x1 : Int32) (x2 : Int32) (xs0 : Int32) (h : aw_H) : Prop :=
  if xs0 = 0 then (Q (some (.int (x0 ^^^ (((1 : Int32) <<< (x1 &&& 31)) ||| ((1 : Int32) <<< (x2 &&& 31)))))) h) else (Q (some (.int x0)) h)
set_option maxRecDepth 100000 in
set_option maxHeartbeats 4000000 in
theorem bl_X7_changed_18 {X : aw_X} {Q : aw_R} (C : aw_C X cX7_changed RX7 4 1) (Z : aw_Z X cX7_changed (some .int) Q) (x0 : Int32) (x1 : Int32) (x2 : Int32) (xs0 : Int32) (h : aw_H) (hh : sm_X7_changed_18  Q x0 x1 x2 xs0 h) : Sat X 18 [.int x0, .int x1, .int x2, Value.null] [.int xs0] h := by
  unfold sm_X7_changed_18 at hh
  refine ow_istore_n (L' := [.int x0, .int x1, .int x2, .int xs0]) C dX7_changed_18 rfl (by decide) rfl ?_
  refine ow_iload_n C dX7_changed_19 rfl rfl ?_
  refine ow_if_eq (tgt := 27) C dX7_changed_20 (by decide) hh (fun hh => ?_) (fun hh => ?_)
  · skip
    refine ow_iload_n C dX7_changed_27 rfl rfl ?_
    refine ow_iconst (v := 1) C dX7_changed_28 rfl ?_
    refine ow_iload_n C dX7_changed_29 rfl rfl ?_
    refine ow_ishl C dX7_changed_30 ?_
    refine ow_iconst (v := 1) C dX7_changed_31 rfl ?_
    refine ow_iload_n C dX7_changed_32 rfl rfl ?_
    refine ow_ishl C dX7_changed_33 ?_
    refine ow_ior C dX7_changed_34 ?_
    refine ow_ixor C dX7_changed_35 ?_
    exact ow_iret Z dX7_changed_36 trivial hh
  · skip
    refine ow_iload_n C dX7_changed_23 rfl rfl ?_
    refine ow_goto (tgt := 36) C dX7_changed_24 (by decide) ?_
    exact ow_iret Z dX7_changed_36 trivial hh
def sm_X7_changed_0  (Q : aw_R) (x0 : Int32) (x1 : Int32) (x2 : Int32) (h : aw_H) : Prop :=
  tr_X7_has [.int x0, .int x1] h fun r2 h1 => sr_I r2 fun v3 => tr_X7_has [.int x0, .int x2] h1 fun r5 h4 => sr_I r5 fun v6 => if ¬ v3 = v6 then (sm_X7_changed_18  Q x0 x1 x2 0 h4) else (sm_X7_changed_18  Q x0 x1 x2 1 h4)
set_option maxRecDepth 100000 in
set_option maxHeartbeats 4000000 in
theorem bl_X7_changed_0 {X : aw_X} {Q : aw_R} (C : aw_C X cX7_changed RX7 4 1) (Z : aw_Z X cX7_changed (some .int) Q) (x0 : Int32) (x1 : Int32) (x2 : Int32) (h : aw_H) (hh : sm_X7_changed_0  Q x0 x1 x2 h) : Sat X 0 [.int x0, .int x1, .int x2, Value.null] [] h := by
  unfold sm_X7_changed_0 at hh
  refine ow_iload_n C dX7_changed_0 rfl rfl ?_
  refine ow_iload_n C dX7_changed_1 rfl rfl ?_
  refine ow_callS C (cs_X7_has _) (Nat.le_of_ble_eq_true rfl) kw_576 dX7_changed_2 (as := [.int x0, .int x1]) (st := []) rfl rfl (Nat.le_of_ble_eq_true rfl) hh (fun r2 h1 hq => ?_)
  obtain ⟨v3, rfl, hh⟩ := sr_I_e hq
  show Sat X 5 [.int x0, .int x1, .int x2, Value.null] [.int v3] h1
  refine ow_iload_n C dX7_changed_5 rfl rfl ?_
  refine ow_iload_n C dX7_changed_6 rfl rfl ?_
  refine ow_callS C (cs_X7_has _) (Nat.le_of_ble_eq_true rfl) kw_576 dX7_changed_7 (as := [.int x0, .int x2]) (st := [.int v3]) rfl rfl (Nat.le_of_ble_eq_true rfl) hh (fun r5 h4 hq => ?_)
  obtain ⟨v6, rfl, hh⟩ := sr_I_e hq
  show Sat X 10 [.int x0, .int x1, .int x2, Value.null] [.int v6, .int v3] h4
  refine ow_icmp_ne (tgt := 17) C dX7_changed_10 (by decide) hh (fun hh => ?_) (fun hh => ?_)
  · skip
    refine ow_iconst (v := 0) C dX7_changed_17 rfl ?_
    exact Sat.mask (bl_X7_changed_18 C Z x0 x1 x2 0 h4 hh) (mk_y (mk_y (mk_y (mk_n mk_0))))
  · skip
    refine ow_iconst (v := 1) C dX7_changed_13 rfl ?_
    refine ow_goto (tgt := 18) C dX7_changed_14 (by decide) ?_
    exact Sat.mask (bl_X7_changed_18 C Z x0 x1 x2 1 h4 hh) (mk_y (mk_y (mk_y (mk_n mk_0))))
def tr_X7_changed : aw_T := fun as h Q => ∃ (x0 : Int32) (x1 : Int32) (x2 : Int32), as = [.int x0, .int x1, .int x2] ∧ (sm_X7_changed_0  Q x0 x1 x2 h)
theorem tq_X7_changed {x0 : Int32} {x1 : Int32} {x2 : Int32} {h : aw_H} {Q : aw_R} : tr_X7_changed [.int x0, .int x1, .int x2] h Q ↔ (sm_X7_changed_0  Q x0 x1 x2 h) := by
  constructor
  · rintro ⟨_, _, _, as0, hh⟩
    cases as0
    exact hh
  · intro hh
    exact ⟨_, _, _, rfl, hh⟩
theorem ct_X7_changed (E : aw_F) : CT E yX7_changed cX7_changed 4 (some .int) 1 tr_X7_changed := by
  refine ct_of (by decide) ?_
  intro X Q as h hE C Z hG
  subst hE
  obtain ⟨x0, x1, x2, rfl, hh⟩ := hG
  refine ⟨[.int x0, .int x1, .int x2, Value.null], rfl, Nat.le_of_ble_eq_true rfl, ?_⟩
  exact bl_X7_changed_0 C Z x0 x1 x2 h hh
theorem cs_X7_changed (E : aw_F) : CS E yX7_changed cX7_changed 4 (some .int) 1 3 tr_X7_changed := ⟨ct_X7_changed E, by decide, kw_578, kw_527, kw_577, by decide +kernel⟩
theorem dX7_doneBy_0 : decode cX7_doneBy 0 = .ok (.iload_n 0, 1) := by decide +kernel
theorem dX7_doneBy_1 : decode cX7_doneBy 1 = .ok (.tableswitch 97 0 3 #[31, 38, 59, 67], 31) := by decide +kernel
theorem dX7_doneBy_32 : decode cX7_doneBy 32 = .ok (.iload 4, 2) := by decide +kernel
theorem dX7_doneBy_34 : decode cX7_doneBy 34 = .ok (.iconst 1, 1) := by decide +kernel
theorem dX7_doneBy_35 : decode cX7_doneBy 35 = .ok (.iload_n 1, 1) := by decide +kernel
theorem dX7_doneBy_36 : decode cX7_doneBy 36 = .ok (.ishl, 1) := by decide +kernel
theorem dX7_doneBy_37 : decode cX7_doneBy 37 = .ok (.ixor, 1) := by decide +kernel
theorem dX7_doneBy_38 : decode cX7_doneBy 38 = .ok (.ireturn, 1) := by decide +kernel
theorem dX7_doneBy_39 : decode cX7_doneBy 39 = .ok (.iload 4, 2) := by decide +kernel
theorem dX7_doneBy_41 : decode cX7_doneBy 41 = .ok (.iload_n 2, 1) := by decide +kernel
theorem dX7_doneBy_42 : decode cX7_doneBy 42 = .ok (.invokestatic 69, 3) := by decide +kernel
theorem dX7_doneBy_45 : decode cX7_doneBy 45 = .ok (.ifCond .eq 12, 3) := by decide +kernel
theorem dX7_doneBy_48 : decode cX7_doneBy 48 = .ok (.iload 4, 2) := by decide +kernel
theorem dX7_doneBy_50 : decode cX7_doneBy 50 = .ok (.iconst 1, 1) := by decide +kernel
theorem dX7_doneBy_51 : decode cX7_doneBy 51 = .ok (.iload_n 1, 1) := by decide +kernel
theorem dX7_doneBy_52 : decode cX7_doneBy 52 = .ok (.ishl, 1) := by decide +kernel
theorem dX7_doneBy_53 : decode cX7_doneBy 53 = .ok (.ixor, 1) := by decide +kernel
theorem dX7_doneBy_54 : decode cX7_doneBy 54 = .ok (.goto 5, 3) := by decide +kernel
theorem dX7_doneBy_57 : decode cX7_doneBy 57 = .ok (.iload 4, 2) := by decide +kernel
theorem dX7_doneBy_59 : decode cX7_doneBy 59 = .ok (.ireturn, 1) := by decide +kernel
theorem dX7_doneBy_60 : decode cX7_doneBy 60 = .ok (.iload 4, 2) := by decide +kernel
theorem dX7_doneBy_62 : decode cX7_doneBy 62 = .ok (.iload_n 1, 1) := by decide +kernel
theorem dX7_doneBy_63 : decode cX7_doneBy 63 = .ok (.iload_n 2, 1) := by decide +kernel
theorem dX7_doneBy_64 : decode cX7_doneBy 64 = .ok (.invokestatic 73, 3) := by decide +kernel
theorem dX7_doneBy_67 : decode cX7_doneBy 67 = .ok (.ireturn, 1) := by decide +kernel
theorem dX7_doneBy_68 : decode cX7_doneBy 68 = .ok (.iload 4, 2) := by decide +kernel
theorem dX7_doneBy_70 : decode cX7_doneBy 70 = .ok (.iload_n 2, 1) := by decide +kernel
theorem dX7_doneBy_71 : decode cX7_doneBy 71 = .ok (.invokestatic 69, 3) := by decide +kernel
theorem dX7_doneBy_74 : decode cX7_doneBy 74 = .ok (.ifCond .eq 21, 3) := by decide +kernel
theorem dX7_doneBy_77 : decode cX7_doneBy 77 = .ok (.iload 4, 2) := by decide +kernel
theorem dX7_doneBy_79 : decode cX7_doneBy 79 = .ok (.iload_n 3, 1) := by decide +kernel
theorem dX7_doneBy_80 : decode cX7_doneBy 80 = .ok (.invokestatic 69, 3) := by decide +kernel
theorem dX7_doneBy_83 : decode cX7_doneBy 83 = .ok (.ifCond .eq 12, 3) := by decide +kernel
theorem dX7_doneBy_86 : decode cX7_doneBy 86 = .ok (.iload 4, 2) := by decide +kernel
theorem dX7_doneBy_88 : decode cX7_doneBy 88 = .ok (.iconst 1, 1) := by decide +kernel
theorem dX7_doneBy_89 : decode cX7_doneBy 89 = .ok (.iload_n 1, 1) := by decide +kernel
theorem dX7_doneBy_90 : decode cX7_doneBy 90 = .ok (.ishl, 1) := by decide +kernel
theorem dX7_doneBy_91 : decode cX7_doneBy 91 = .ok (.ixor, 1) := by decide +kernel
theorem dX7_doneBy_92 : decode cX7_doneBy 92 = .ok (.goto 5, 3) := by decide +kernel
theorem dX7_doneBy_95 : decode cX7_doneBy 95 = .ok (.iload 4, 2) := by decide +kernel
theorem dX7_doneBy_97 : decode cX7_doneBy 97 = .ok (.ireturn, 1) := by decide +kernel
theorem dX7_doneBy_98 : decode cX7_doneBy 98 = .ok (.iload 4, 2) := by decide +kernel
theorem dX7_doneBy_100 : decode cX7_doneBy 100 = .ok (.iload_n 3, 1) := by decide +kernel
theorem dX7_doneBy_101 : decode cX7_doneBy 101 = .ok (.invokestatic 69, 3) := by decide +kernel
theorem dX7_doneBy_104 : decode cX7_doneBy 104 = .ok (.ifCond .eq 13, 3) := by decide +kernel
theorem dX7_doneBy_107 : decode cX7_doneBy 107 = .ok (.iload 4, 2) := by decide +kernel
theorem dX7_doneBy_109 : decode cX7_doneBy 109 = .ok (.iload_n 1, 1) := by decide +kernel
theorem dX7_doneBy_110 : decode cX7_doneBy 110 = .ok (.iload_n 2, 1) := by decide +kernel
theorem dX7_doneBy_111 : decode cX7_doneBy 111 = .ok (.invokestatic 73, 3) := by decide +kernel
theorem dX7_doneBy_114 : decode cX7_doneBy 114 = .ok (.goto 5, 3) := by decide +kernel
theorem dX7_doneBy_117 : decode cX7_doneBy 117 = .ok (.iload 4, 2) := by decide +kernel
theorem dX7_doneBy_119 : decode cX7_doneBy 119 = .ok (.ireturn, 1) := by decide +kernel
def sm_X7_doneBy_0  (Q : aw_R) (x0 : Int32) (x1 : Int32) (x2 : Int32) (x3 : Int32) (x4 : Int32) (h : aw_H) : Prop :=
  if x0 = 0 then (Q (some (.int (x4 ^^^ ((1 : Int32) <<< (x1 &&& 31))))) h) else if x0 = 1 then (tr_X7_has [.int x4, .int x2] h fun r2 h1 => sr_I r2 fun v3 => if v3 = 0 then (Q (some (.int x4)) h1) else (Q (some (.int (x4 ^^^ ((1 : Int32) <<< (x1 &&& 31))))) h1)) else if x0 = 2 then (tr_X7_changed [.int x4, .int x1, .int x2] h fun r5 h4 => sr_I r5 fun v6 => Q (some (.int v6)) h4) else if x0 = 3 then (tr_X7_has [.int x4, .int x2] h fun r8 h7 => sr_I r8 fun v9 => if v9 = 0 then (Q (some (.int x4)) h7) else (tr_X7_has [.int x4, .int x3] h7 fun r11 h10 => sr_I r11 fun v12 => if v12 = 0 then (Q (some (.int x4)) h10) else (Q (some (.int (x4 ^^^ ((1 : Int32) <<< (x1 &&& 31))))) h10))) else (tr_X7_has [.int x4, .int x3] h fun r14 h13 => sr_I r14 fun v15 => if v15 = 0 then (Q (some (.int x4)) h13) else (tr_X7_changed [.int x4, .int x1, .int x2] h13 fun r17 h16 => sr_I r17 fun v18 => Q (some (.int v18)) h16))
set_option maxRecDepth 100000 in
set_option maxHeartbeats 4000000 in
theorem bl_X7_doneBy_0 {X : aw_X} {Q : aw_R} (C : aw_C X cX7_doneBy RX7 5 2) (Z : aw_Z X cX7_doneBy (some .int) Q) (x0 : Int32) (x1 : Int32) (x2 : Int32) (x3 : Int32) (x4 : Int32) (h : aw_H) (hh : sm_X7_doneBy_0  Q x0 x1 x2 x3 x4 h) : Sat X 0 [.int x0, .int x1, .int x2, .int x3, .int x4] [] h := by
  unfold sm_X7_doneBy_0 at hh
  refine ow_iload_n C dX7_doneBy_0 rfl rfl ?_
  rcases if_e hh with ⟨hc0, hh⟩ | ⟨hc0, hh⟩
  · refine ow_tableIn (tgt := 32) (v := 0) C dX7_doneBy_1 hc0 (by decide) (by decide) rfl (by decide) ?_
    refine ow_iload C dX7_doneBy_32 rfl ?_
    refine ow_iconst (v := 1) C dX7_doneBy_34 rfl ?_
    refine ow_iload_n C dX7_doneBy_35 rfl rfl ?_
    refine ow_ishl C dX7_doneBy_36 ?_
    refine ow_ixor C dX7_doneBy_37 ?_
    exact ow_iret Z dX7_doneBy_38 trivial hh
  rcases if_e hh with ⟨hc1, hh⟩ | ⟨hc1, hh⟩
  · refine ow_tableIn (tgt := 39) (v := 1) C dX7_doneBy_1 hc1 (by decide) (by decide) rfl (by decide) ?_
    refine ow_iload C dX7_doneBy_39 rfl ?_
    refine ow_iload_n C dX7_doneBy_41 rfl rfl ?_
    refine ow_callS C (cs_X7_has _) (Nat.le_of_ble_eq_true rfl) kw_576 dX7_doneBy_42 (as := [.int x4, .int x2]) (st := []) rfl rfl (Nat.le_of_ble_eq_true rfl) hh (fun r2 h1 hq => ?_)
    obtain ⟨v3, rfl, hh⟩ := sr_I_e hq
    show Sat X 45 [.int x0, .int x1, .int x2, .int x3, .int x4] [.int v3] h1
    refine ow_if_eq (tgt := 57) C dX7_doneBy_45 (by decide) hh (fun hh => ?_) (fun hh => ?_)
    · skip
      refine ow_iload C dX7_doneBy_57 rfl ?_
      exact ow_iret Z dX7_doneBy_59 trivial hh
    · skip
      refine ow_iload C dX7_doneBy_48 rfl ?_
      refine ow_iconst (v := 1) C dX7_doneBy_50 rfl ?_
      refine ow_iload_n C dX7_doneBy_51 rfl rfl ?_
      refine ow_ishl C dX7_doneBy_52 ?_
      refine ow_ixor C dX7_doneBy_53 ?_
      refine ow_goto (tgt := 59) C dX7_doneBy_54 (by decide) ?_
      exact ow_iret Z dX7_doneBy_59 trivial hh
  rcases if_e hh with ⟨hc2, hh⟩ | ⟨hc2, hh⟩
  · refine ow_tableIn (tgt := 60) (v := 2) C dX7_doneBy_1 hc2 (by decide) (by decide) rfl (by decide) ?_
    refine ow_iload C dX7_doneBy_60 rfl ?_
    refine ow_iload_n C dX7_doneBy_62 rfl rfl ?_
    refine ow_iload_n C dX7_doneBy_63 rfl rfl ?_
    refine ow_callS C (cs_X7_changed _) (Nat.le_of_ble_eq_true rfl) kw_579 dX7_doneBy_64 (as := [.int x4, .int x1, .int x2]) (st := []) rfl rfl (Nat.le_of_ble_eq_true rfl) hh (fun r5 h4 hq => ?_)
    obtain ⟨v6, rfl, hh⟩ := sr_I_e hq
    show Sat X 67 [.int x0, .int x1, .int x2, .int x3, .int x4] [.int v6] h4
    exact ow_iret Z dX7_doneBy_67 trivial hh
  rcases if_e hh with ⟨hc3, hh⟩ | ⟨hc3, hh⟩
  · refine ow_tableIn (tgt := 68) (v := 3) C dX7_doneBy_1 hc3 (by decide) (by decide) rfl (by decide) ?_
    refine ow_iload C dX7_doneBy_68 rfl ?_
    refine ow_iload_n C dX7_doneBy_70 rfl rfl ?_
    refine ow_callS C (cs_X7_has _) (Nat.le_of_ble_eq_true rfl) kw_576 dX7_doneBy_71 (as := [.int x4, .int x2]) (st := []) rfl rfl (Nat.le_of_ble_eq_true rfl) hh (fun r8 h7 hq => ?_)
    obtain ⟨v9, rfl, hh⟩ := sr_I_e hq
    show Sat X 74 [.int x0, .int x1, .int x2, .int x3, .int x4] [.int v9] h7
    refine ow_if_eq (tgt := 95) C dX7_doneBy_74 (by decide) hh (fun hh => ?_) (fun hh => ?_)
    · skip
      refine ow_iload C dX7_doneBy_95 rfl ?_
      exact ow_iret Z dX7_doneBy_97 trivial hh
    · skip
      refine ow_iload C dX7_doneBy_77 rfl ?_
      refine ow_iload_n C dX7_doneBy_79 rfl rfl ?_
      refine ow_callS C (cs_X7_has _) (Nat.le_of_ble_eq_true rfl) kw_576 dX7_doneBy_80 (as := [.int x4, .int x3]) (st := []) rfl rfl (Nat.le_of_ble_eq_true rfl) hh (fun r11 h10 hq => ?_)
      obtain ⟨v12, rfl, hh⟩ := sr_I_e hq
      show Sat X 83 [.int x0, .int x1, .int x2, .int x3, .int x4] [.int v12] h10
      refine ow_if_eq (tgt := 95) C dX7_doneBy_83 (by decide) hh (fun hh => ?_) (fun hh => ?_)
      · skip
        refine ow_iload C dX7_doneBy_95 rfl ?_
        exact ow_iret Z dX7_doneBy_97 trivial hh
      · skip
        refine ow_iload C dX7_doneBy_86 rfl ?_
        refine ow_iconst (v := 1) C dX7_doneBy_88 rfl ?_
        refine ow_iload_n C dX7_doneBy_89 rfl rfl ?_
        refine ow_ishl C dX7_doneBy_90 ?_
        refine ow_ixor C dX7_doneBy_91 ?_
        refine ow_goto (tgt := 97) C dX7_doneBy_92 (by decide) ?_
        exact ow_iret Z dX7_doneBy_97 trivial hh
  refine ow_tableOut (tgt := 98) C dX7_doneBy_1 (by have := lv_neT hc0 (a := 0) rfl; have := lv_neT hc1 (a := 1) rfl; have := lv_neT hc2 (a := 2) rfl; have := lv_neT hc3 (a := 3) rfl; omega) (by decide) ?_
  refine ow_iload C dX7_doneBy_98 rfl ?_
  refine ow_iload_n C dX7_doneBy_100 rfl rfl ?_
  refine ow_callS C (cs_X7_has _) (Nat.le_of_ble_eq_true rfl) kw_576 dX7_doneBy_101 (as := [.int x4, .int x3]) (st := []) rfl rfl (Nat.le_of_ble_eq_true rfl) hh (fun r14 h13 hq => ?_)
  obtain ⟨v15, rfl, hh⟩ := sr_I_e hq
  show Sat X 104 [.int x0, .int x1, .int x2, .int x3, .int x4] [.int v15] h13
  refine ow_if_eq (tgt := 117) C dX7_doneBy_104 (by decide) hh (fun hh => ?_) (fun hh => ?_)
  · skip
    refine ow_iload C dX7_doneBy_117 rfl ?_
    exact ow_iret Z dX7_doneBy_119 trivial hh
  · skip
    refine ow_iload C dX7_doneBy_107 rfl ?_
    refine ow_iload_n C dX7_doneBy_109 rfl rfl ?_
    refine ow_iload_n C dX7_doneBy_110 rfl rfl ?_
    refine ow_callS C (cs_X7_changed _) (Nat.le_of_ble_eq_true rfl) kw_579 dX7_doneBy_111 (as := [.int x4, .int x1, .int x2]) (st := []) rfl rfl (Nat.le_of_ble_eq_true rfl) hh (fun r17 h16 hq => ?_)
    obtain ⟨v18, rfl, hh⟩ := sr_I_e hq
    show Sat X 114 [.int x0, .int x1, .int x2, .int x3, .int x4] [.int v18] h16
    refine ow_goto (tgt := 119) C dX7_doneBy_114 (by decide) ?_
    exact ow_iret Z dX7_doneBy_119 trivial hh
def tr_X7_doneBy : aw_T := fun as h Q => ∃ (x0 : Int32) (x1 : Int32) (x2 : Int32) (x3 : Int32) (x4 : Int32), as = [.int x0, .int x1, .int x2, .int x3, .int x4] ∧ (sm_X7_doneBy_0  Q x0 x1 x2 x3 x4 h)
theorem tq_X7_doneBy {x0 : Int32} {x1 : Int32} {x2 : Int32} {x3 : Int32} {x4 : Int32} {h : aw_H} {Q : aw_R} : tr_X7_doneBy [.int x0, .int x1, .int x2, .int x3, .int x4] h Q ↔ (sm_X7_doneBy_0  Q x0 x1 x2 x3 x4 h) := by
  constructor
  · rintro ⟨_, _, _, _, _, as0, hh⟩
    cases as0
    exact hh
  · intro hh
    exact ⟨_, _, _, _, _, rfl, hh⟩
theorem ct_X7_doneBy (E : aw_F) : CT E yX7_doneBy cX7_doneBy 5 (some .int) 2 tr_X7_doneBy := by
  refine ct_of (by decide) ?_
  intro X Q as h hE C Z hG
  subst hE
  obtain ⟨x0, x1, x2, x3, x4, rfl, hh⟩ := hG
  refine ⟨[.int x0, .int x1, .int x2, .int x3, .int x4], rfl, Nat.le_of_ble_eq_true rfl, ?_⟩
  exact bl_X7_doneBy_0 C Z x0 x1 x2 x3 x4 h hh
theorem cs_X7_doneBy (E : aw_F) : CS E yX7_doneBy cX7_doneBy 5 (some .int) 2 5 tr_X7_doneBy := ⟨ct_X7_doneBy E, by decide, kw_581, kw_527, kw_580, by decide +kernel⟩
theorem dX7_doneIn_0 : decode cX7_doneIn 0 = .ok (.iload_n 1, 1) := by decide +kernel
theorem dX7_doneIn_1 : decode cX7_doneIn 1 = .ok (.iconst 5, 1) := by decide +kernel
theorem dX7_doneIn_2 : decode cX7_doneIn 2 = .ok (.iadd, 1) := by decide +kernel
theorem dX7_doneIn_3 : decode cX7_doneIn 3 = .ok (.iconst 5, 1) := by decide +kernel
theorem dX7_doneIn_4 : decode cX7_doneIn 4 = .ok (.iload_n 2, 1) := by decide +kernel
theorem dX7_doneIn_5 : decode cX7_doneIn 5 = .ok (.imul, 1) := by decide +kernel
theorem dX7_doneIn_6 : decode cX7_doneIn 6 = .ok (.iadd, 1) := by decide +kernel
theorem dX7_doneIn_7 : decode cX7_doneIn 7 = .ok (.istore 4, 2) := by decide +kernel
theorem dX7_doneIn_9 : decode cX7_doneIn 9 = .ok (.aload_n 0, 1) := by decide +kernel
theorem dX7_doneIn_10 : decode cX7_doneIn 10 = .ok (.getfield 7, 3) := by decide +kernel
theorem dX7_doneIn_13 : decode cX7_doneIn 13 = .ok (.iload 4, 2) := by decide +kernel
theorem dX7_doneIn_15 : decode cX7_doneIn 15 = .ok (.iconst 4, 1) := by decide +kernel
theorem dX7_doneIn_16 : decode cX7_doneIn 16 = .ok (.iadd, 1) := by decide +kernel
theorem dX7_doneIn_17 : decode cX7_doneIn 17 = .ok (.iaload, 1) := by decide +kernel
theorem dX7_doneIn_18 : decode cX7_doneIn 18 = .ok (.iconst 1, 1) := by decide +kernel
theorem dX7_doneIn_19 : decode cX7_doneIn 19 = .ok (.if_icmp .ne 7, 3) := by decide +kernel
theorem dX7_doneIn_22 : decode cX7_doneIn 22 = .ok (.iload_n 3, 1) := by decide +kernel
theorem dX7_doneIn_23 : decode cX7_doneIn 23 = .ok (.goto 41, 3) := by decide +kernel
theorem dX7_doneIn_26 : decode cX7_doneIn 26 = .ok (.aload_n 0, 1) := by decide +kernel
theorem dX7_doneIn_27 : decode cX7_doneIn 27 = .ok (.getfield 7, 3) := by decide +kernel
theorem dX7_doneIn_30 : decode cX7_doneIn 30 = .ok (.iload 4, 2) := by decide +kernel
theorem dX7_doneIn_32 : decode cX7_doneIn 32 = .ok (.iaload, 1) := by decide +kernel
theorem dX7_doneIn_33 : decode cX7_doneIn 33 = .ok (.aload_n 0, 1) := by decide +kernel
theorem dX7_doneIn_34 : decode cX7_doneIn 34 = .ok (.getfield 7, 3) := by decide +kernel
theorem dX7_doneIn_37 : decode cX7_doneIn 37 = .ok (.iload 4, 2) := by decide +kernel
theorem dX7_doneIn_39 : decode cX7_doneIn 39 = .ok (.iconst 1, 1) := by decide +kernel
theorem dX7_doneIn_40 : decode cX7_doneIn 40 = .ok (.iadd, 1) := by decide +kernel
theorem dX7_doneIn_41 : decode cX7_doneIn 41 = .ok (.iaload, 1) := by decide +kernel
theorem dX7_doneIn_42 : decode cX7_doneIn 42 = .ok (.aload_n 0, 1) := by decide +kernel
theorem dX7_doneIn_43 : decode cX7_doneIn 43 = .ok (.getfield 7, 3) := by decide +kernel
theorem dX7_doneIn_46 : decode cX7_doneIn 46 = .ok (.iload 4, 2) := by decide +kernel
theorem dX7_doneIn_48 : decode cX7_doneIn 48 = .ok (.iconst 2, 1) := by decide +kernel
theorem dX7_doneIn_49 : decode cX7_doneIn 49 = .ok (.iadd, 1) := by decide +kernel
theorem dX7_doneIn_50 : decode cX7_doneIn 50 = .ok (.iaload, 1) := by decide +kernel
theorem dX7_doneIn_51 : decode cX7_doneIn 51 = .ok (.aload_n 0, 1) := by decide +kernel
theorem dX7_doneIn_52 : decode cX7_doneIn 52 = .ok (.getfield 7, 3) := by decide +kernel
theorem dX7_doneIn_55 : decode cX7_doneIn 55 = .ok (.iload 4, 2) := by decide +kernel
theorem dX7_doneIn_57 : decode cX7_doneIn 57 = .ok (.iconst 3, 1) := by decide +kernel
theorem dX7_doneIn_58 : decode cX7_doneIn 58 = .ok (.iadd, 1) := by decide +kernel
theorem dX7_doneIn_59 : decode cX7_doneIn 59 = .ok (.iaload, 1) := by decide +kernel
theorem dX7_doneIn_60 : decode cX7_doneIn 60 = .ok (.iload_n 3, 1) := by decide +kernel
theorem dX7_doneIn_61 : decode cX7_doneIn 61 = .ok (.invokestatic 77, 3) := by decide +kernel
theorem dX7_doneIn_64 : decode cX7_doneIn 64 = .ok (.ireturn, 1) := by decide +kernel
def sm_X7_doneIn_0  (Q : aw_R) (p0 : Nat) (x1 : Int32) (x2 : Int32) (x3 : Int32) (h : aw_H) : Prop :=
  sg_R h p0 6 0 fun q1 => sa_I h q1 (((x1 + 5) + (5 * x2)) + 4) fun v2 => if ¬ v2 = 1 then (sg_R h p0 6 0 fun q3 => sa_I h q3 ((x1 + 5) + (5 * x2)) fun v4 => sg_R h p0 6 0 fun q5 => sa_I h q5 (((x1 + 5) + (5 * x2)) + 1) fun v6 => sg_R h p0 6 0 fun q7 => sa_I h q7 (((x1 + 5) + (5 * x2)) + 2) fun v8 => sg_R h p0 6 0 fun q9 => sa_I h q9 (((x1 + 5) + (5 * x2)) + 3) fun v10 => tr_X7_doneBy [.int v4, .int v6, .int v8, .int v10, .int x3] h fun r12 h11 => sr_I r12 fun v13 => Q (some (.int v13)) h11) else (Q (some (.int x3)) h)
set_option maxRecDepth 100000 in
set_option maxHeartbeats 4000000 in
theorem bl_X7_doneIn_0 {X : aw_X} {Q : aw_R} (C : aw_C X cX7_doneIn RX7 5 3) (Z : aw_Z X cX7_doneIn (some .int) Q) (p0 : Nat) (x1 : Int32) (x2 : Int32) (x3 : Int32) (h : aw_H) (hh : sm_X7_doneIn_0  Q p0 x1 x2 x3 h) : Sat X 0 [.ref p0, .int x1, .int x2, .int x3, Value.null] [] h := by
  unfold sm_X7_doneIn_0 at hh
  refine ow_iload_n C dX7_doneIn_0 rfl rfl ?_
  refine ow_iconst (v := 5) C dX7_doneIn_1 rfl ?_
  refine ow_iadd C dX7_doneIn_2 ?_
  refine ow_iconst (v := 5) C dX7_doneIn_3 rfl ?_
  refine ow_iload_n C dX7_doneIn_4 rfl rfl ?_
  refine ow_imul C dX7_doneIn_5 ?_
  refine ow_iadd C dX7_doneIn_6 ?_
  refine ow_istore (L' := [.ref p0, .int x1, .int x2, .int x3, .int ((x1 + 5) + (5 * x2))]) C dX7_doneIn_7 (by decide) rfl ?_
  refine ow_aload_n C dX7_doneIn_9 rfl rfl ?_
  refine ow_getR (ci := 6) (k := 0) (T := TX7) C rfl igX7 (by decide) kw_533 dX7_doneIn_10 hh (fun q1 hh => ?_)
  refine ow_iload C dX7_doneIn_13 rfl ?_
  refine ow_iconst (v := 4) C dX7_doneIn_15 rfl ?_
  refine ow_iadd C dX7_doneIn_16 ?_
  refine ow_iaload C dX7_doneIn_17 hh (fun v2 hh => ?_)
  refine ow_iconst (v := 1) C dX7_doneIn_18 rfl ?_
  refine ow_icmp_ne (tgt := 26) C dX7_doneIn_19 (by decide) hh (fun hh => ?_) (fun hh => ?_)
  · skip
    refine ow_aload_n C dX7_doneIn_26 rfl rfl ?_
    refine ow_getR (ci := 6) (k := 0) (T := TX7) C rfl igX7 (by decide) kw_533 dX7_doneIn_27 hh (fun q3 hh => ?_)
    refine ow_iload C dX7_doneIn_30 rfl ?_
    refine ow_iaload C dX7_doneIn_32 hh (fun v4 hh => ?_)
    refine ow_aload_n C dX7_doneIn_33 rfl rfl ?_
    refine ow_getR (ci := 6) (k := 0) (T := TX7) C rfl igX7 (by decide) kw_533 dX7_doneIn_34 hh (fun q5 hh => ?_)
    refine ow_iload C dX7_doneIn_37 rfl ?_
    refine ow_iconst (v := 1) C dX7_doneIn_39 rfl ?_
    refine ow_iadd C dX7_doneIn_40 ?_
    refine ow_iaload C dX7_doneIn_41 hh (fun v6 hh => ?_)
    refine ow_aload_n C dX7_doneIn_42 rfl rfl ?_
    refine ow_getR (ci := 6) (k := 0) (T := TX7) C rfl igX7 (by decide) kw_533 dX7_doneIn_43 hh (fun q7 hh => ?_)
    refine ow_iload C dX7_doneIn_46 rfl ?_
    refine ow_iconst (v := 2) C dX7_doneIn_48 rfl ?_
    refine ow_iadd C dX7_doneIn_49 ?_
    refine ow_iaload C dX7_doneIn_50 hh (fun v8 hh => ?_)
    refine ow_aload_n C dX7_doneIn_51 rfl rfl ?_
    refine ow_getR (ci := 6) (k := 0) (T := TX7) C rfl igX7 (by decide) kw_533 dX7_doneIn_52 hh (fun q9 hh => ?_)
    refine ow_iload C dX7_doneIn_55 rfl ?_
    refine ow_iconst (v := 3) C dX7_doneIn_57 rfl ?_
    refine ow_iadd C dX7_doneIn_58 ?_
    refine ow_iaload C dX7_doneIn_59 hh (fun v10 hh => ?_)
    refine ow_iload_n C dX7_doneIn_60 rfl rfl ?_
    refine ow_callS C (cs_X7_doneBy _) (Nat.le_of_ble_eq_true rfl) kw_582 dX7_doneIn_61 (as := [.int v4, .int v6, .int v8, .int v10, .int x3]) (st := []) rfl rfl (Nat.le_of_ble_eq_true rfl) hh (fun r12 h11 hq => ?_)
    obtain ⟨v13, rfl, hh⟩ := sr_I_e hq
    show Sat X 64 [.ref p0, .int x1, .int x2, .int x3, .int ((x1 + 5) + (5 * x2))] [.int v13] h11
    exact ow_iret Z dX7_doneIn_64 trivial hh
  · skip
    refine ow_iload_n C dX7_doneIn_22 rfl rfl ?_
    refine ow_goto (tgt := 64) C dX7_doneIn_23 (by decide) ?_
    exact ow_iret Z dX7_doneIn_64 trivial hh
def tr_X7_doneIn : aw_T := fun as h Q => ∃ (p0 : Nat) (x1 : Int32) (x2 : Int32) (x3 : Int32), as = [.ref p0, .int x1, .int x2, .int x3] ∧ (sm_X7_doneIn_0  Q p0 x1 x2 x3 h)
theorem tq_X7_doneIn {p0 : Nat} {x1 : Int32} {x2 : Int32} {x3 : Int32} {h : aw_H} {Q : aw_R} : tr_X7_doneIn [.ref p0, .int x1, .int x2, .int x3] h Q ↔ (sm_X7_doneIn_0  Q p0 x1 x2 x3 h) := by
  constructor
  · rintro ⟨_, _, _, _, as0, hh⟩
    cases as0
    exact hh
  · intro hh
    exact ⟨_, _, _, _, rfl, hh⟩
theorem ct_X7_doneIn (E : aw_F) : CT E yX7_doneIn cX7_doneIn 5 (some .int) 3 tr_X7_doneIn := by
  refine ct_of (by decide) ?_
  intro X Q as h hE C Z hG
  subst hE
  obtain ⟨p0, x1, x2, x3, rfl, hh⟩ := hG
  refine ⟨[.ref p0, .int x1, .int x2, .int x3, Value.null], rfl, Nat.le_of_ble_eq_true rfl, ?_⟩
  exact bl_X7_doneIn_0 C Z p0 x1 x2 x3 h hh
theorem cv_X7_doneIn (E : aw_F) : CV E yX7_doneIn cX7_doneIn 5 (some .int) 3 3 6 tr_X7_doneIn := ⟨ct_X7_doneIn E, by decide, kw_584, kw_585, kw_527, kw_583, by decide +kernel, _, _, rfl⟩
theorem dX7_does_0 : decode cX7_does 0 = .ok (.aload_n 0, 1) := by decide +kernel
theorem dX7_does_1 : decode cX7_does 1 = .ok (.iload_n 1, 1) := by decide +kernel
theorem dX7_does_2 : decode cX7_does 2 = .ok (.invokevirtual 66, 3) := by decide +kernel
theorem dX7_does_5 : decode cX7_does 5 = .ok (.ifCond .eq 21, 3) := by decide +kernel
theorem dX7_does_8 : decode cX7_does 8 = .ok (.aload_n 0, 1) := by decide +kernel
theorem dX7_does_9 : decode cX7_does 9 = .ok (.iload_n 2, 1) := by decide +kernel
theorem dX7_does_10 : decode cX7_does 10 = .ok (.invokevirtual 80, 3) := by decide +kernel
theorem dX7_does_13 : decode cX7_does 13 = .ok (.ifCond .eq 13, 3) := by decide +kernel
theorem dX7_does_16 : decode cX7_does 16 = .ok (.aload_n 0, 1) := by decide +kernel
theorem dX7_does_17 : decode cX7_does 17 = .ok (.iconst 0, 1) := by decide +kernel
theorem dX7_does_18 : decode cX7_does 18 = .ok (.iload_n 1, 1) := by decide +kernel
theorem dX7_does_19 : decode cX7_does 19 = .ok (.iload_n 2, 1) := by decide +kernel
theorem dX7_does_20 : decode cX7_does 20 = .ok (.invokevirtual 83, 3) := by decide +kernel
theorem dX7_does_23 : decode cX7_does 23 = .ok (.goto 4, 3) := by decide +kernel
theorem dX7_does_26 : decode cX7_does 26 = .ok (.iconst (-1), 1) := by decide +kernel
theorem dX7_does_27 : decode cX7_does 27 = .ok (.ireturn, 1) := by decide +kernel
def sm_X7_does_0  (Q : aw_R) (p0 : Nat) (x1 : Int32) (x2 : Int32) (h : aw_H) : Prop :=
  sv_O h p0 6 (tr_X7_isGate [.ref p0, .int x1] h fun r2 h1 => sr_I r2 fun v3 => if v3 = 0 then (Q (some (.int ((-1)))) h1) else (sv_O h1 p0 6 (tr_X7_isState [.ref p0, .int x2] h1 fun r5 h4 => sr_I r5 fun v6 => if v6 = 0 then (Q (some (.int ((-1)))) h4) else (sv_O h4 p0 6 (tr_X7_doneIn [.ref p0, .int 0, .int x1, .int x2] h4 fun r8 h7 => sr_I r8 fun v9 => Q (some (.int v9)) h7)))))
set_option maxRecDepth 100000 in
set_option maxHeartbeats 4000000 in
theorem bl_X7_does_0 {X : aw_X} {Q : aw_R} (C : aw_C X cX7_does RX7 3 4) (Z : aw_Z X cX7_does (some .int) Q) (p0 : Nat) (x1 : Int32) (x2 : Int32) (h : aw_H) (hh : sm_X7_does_0  Q p0 x1 x2 h) : Sat X 0 [.ref p0, .int x1, .int x2] [] h := by
  unfold sm_X7_does_0 at hh
  refine ow_aload_n C dX7_does_0 rfl rfl ?_
  refine ow_iload_n C dX7_does_1 rfl rfl ?_
  refine ow_callV C (cv_X7_isGate _) (Nat.le_of_ble_eq_true rfl) kw_572 dX7_does_2 (as := [.int x1]) (st := []) rfl rfl (Nat.le_of_ble_eq_true rfl) hh (fun r2 h1 hq => ?_)
  obtain ⟨v3, rfl, hh⟩ := sr_I_e hq
  show Sat X 5 [.ref p0, .int x1, .int x2] [.int v3] h1
  refine ow_if_eq (tgt := 26) C dX7_does_5 (by decide) hh (fun hh => ?_) (fun hh => ?_)
  · skip
    refine ow_iconst (v := (-1)) C dX7_does_26 rfl ?_
    exact ow_iret Z dX7_does_27 trivial hh
  · skip
    refine ow_aload_n C dX7_does_8 rfl rfl ?_
    refine ow_iload_n C dX7_does_9 rfl rfl ?_
    refine ow_callV C (cv_X7_isState _) (Nat.le_of_ble_eq_true rfl) kw_586 dX7_does_10 (as := [.int x2]) (st := []) rfl rfl (Nat.le_of_ble_eq_true rfl) hh (fun r5 h4 hq => ?_)
    obtain ⟨v6, rfl, hh⟩ := sr_I_e hq
    show Sat X 13 [.ref p0, .int x1, .int x2] [.int v6] h4
    refine ow_if_eq (tgt := 26) C dX7_does_13 (by decide) hh (fun hh => ?_) (fun hh => ?_)
    · skip
      refine ow_iconst (v := (-1)) C dX7_does_26 rfl ?_
      exact ow_iret Z dX7_does_27 trivial hh
    · skip
      refine ow_aload_n C dX7_does_16 rfl rfl ?_
      refine ow_iconst (v := 0) C dX7_does_17 rfl ?_
      refine ow_iload_n C dX7_does_18 rfl rfl ?_
      refine ow_iload_n C dX7_does_19 rfl rfl ?_
      refine ow_callV C (cv_X7_doneIn _) (Nat.le_of_ble_eq_true rfl) kw_587 dX7_does_20 (as := [.int 0, .int x1, .int x2]) (st := []) rfl rfl (Nat.le_of_ble_eq_true rfl) hh (fun r8 h7 hq => ?_)
      obtain ⟨v9, rfl, hh⟩ := sr_I_e hq
      show Sat X 23 [.ref p0, .int x1, .int x2] [.int v9] h7
      refine ow_goto (tgt := 27) C dX7_does_23 (by decide) ?_
      exact ow_iret Z dX7_does_27 trivial hh
def tr_X7_does : aw_T := fun as h Q => ∃ (p0 : Nat) (x1 : Int32) (x2 : Int32), as = [.ref p0, .int x1, .int x2] ∧ (sm_X7_does_0  Q p0 x1 x2 h)
theorem tq_X7_does {p0 : Nat} {x1 : Int32} {x2 : Int32} {h : aw_H} {Q : aw_R} : tr_X7_does [.ref p0, .int x1, .int x2] h Q ↔ (sm_X7_does_0  Q p0 x1 x2 h) := by
  constructor
  · rintro ⟨_, _, _, as0, hh⟩
    cases as0
    exact hh
  · intro hh
    exact ⟨_, _, _, rfl, hh⟩
theorem ct_X7_does (E : aw_F) : CT E yX7_does cX7_does 3 (some .int) 4 tr_X7_does := by
  refine ct_of (by decide) ?_
  intro X Q as h hE C Z hG
  subst hE
  obtain ⟨p0, x1, x2, rfl, hh⟩ := hG
  refine ⟨[.ref p0, .int x1, .int x2], rfl, Nat.le_of_ble_eq_true rfl, ?_⟩
  exact bl_X7_does_0 C Z p0 x1 x2 h hh
theorem cv_X7_does (E : aw_F) : CV E yX7_does cX7_does 3 (some .int) 4 2 6 tr_X7_does := ⟨ct_X7_does E, by decide, kw_589, kw_590, kw_527, kw_588, by decide +kernel, _, _, rfl⟩
theorem dX7_type_0 : decode cX7_type 0 = .ok (.iload_n 1, 1) := by decide +kernel
theorem dX7_type_1 : decode cX7_type 1 = .ok (.bipush 32, 2) := by decide +kernel
theorem dX7_type_3 : decode cX7_type 3 = .ok (.bipush 126, 2) := by decide +kernel
theorem dX7_type_5 : decode cX7_type 5 = .ok (.invokestatic 42, 3) := by decide +kernel
theorem dX7_type_8 : decode cX7_type 8 = .ok (.ifCond .ne 5, 3) := by decide +kernel
theorem dX7_type_11 : decode cX7_type 11 = .ok (.iconst (-1), 1) := by decide +kernel
theorem dX7_type_12 : decode cX7_type 12 = .ok (.ireturn, 1) := by decide +kernel
theorem dX7_type_13 : decode cX7_type 13 = .ok (.aload_n 0, 1) := by decide +kernel
theorem dX7_type_14 : decode cX7_type 14 = .ok (.getfield 86, 3) := by decide +kernel
theorem dX7_type_17 : decode cX7_type 17 = .ok (.bipush 110, 2) := by decide +kernel
theorem dX7_type_19 : decode cX7_type 19 = .ok (.if_icmp .ne 6, 3) := by decide +kernel
theorem dX7_type_22 : decode cX7_type 22 = .ok (.bipush (-3), 2) := by decide +kernel
theorem dX7_type_24 : decode cX7_type 24 = .ok (.ireturn, 1) := by decide +kernel
theorem dX7_type_25 : decode cX7_type 25 = .ok (.aload_n 0, 1) := by decide +kernel
theorem dX7_type_26 : decode cX7_type 26 = .ok (.getfield 13, 3) := by decide +kernel
theorem dX7_type_29 : decode cX7_type 29 = .ok (.aload_n 0, 1) := by decide +kernel
theorem dX7_type_30 : decode cX7_type 30 = .ok (.getfield 86, 3) := by decide +kernel
theorem dX7_type_33 : decode cX7_type 33 = .ok (.iload_n 1, 1) := by decide +kernel
theorem dX7_type_34 : decode cX7_type 34 = .ok (.iastore, 1) := by decide +kernel
theorem dX7_type_35 : decode cX7_type 35 = .ok (.aload_n 0, 1) := by decide +kernel
theorem dX7_type_36 : decode cX7_type 36 = .ok (.dup, 1) := by decide +kernel
theorem dX7_type_37 : decode cX7_type 37 = .ok (.getfield 86, 3) := by decide +kernel
theorem dX7_type_40 : decode cX7_type 40 = .ok (.iconst 1, 1) := by decide +kernel
theorem dX7_type_41 : decode cX7_type 41 = .ok (.iadd, 1) := by decide +kernel
theorem dX7_type_42 : decode cX7_type 42 = .ok (.putfield 86, 3) := by decide +kernel
theorem dX7_type_45 : decode cX7_type 45 = .ok (.aload_n 0, 1) := by decide +kernel
theorem dX7_type_46 : decode cX7_type 46 = .ok (.getfield 86, 3) := by decide +kernel
theorem dX7_type_49 : decode cX7_type 49 = .ok (.ireturn, 1) := by decide +kernel
def sm_X7_type_0  (Q : aw_R) (p0 : Nat) (x1 : Int32) (h : aw_H) : Prop :=
  tr_X7_in [.int x1, .int 32, .int 126] h fun r2 h1 => sr_I r2 fun v3 => if ¬ v3 = 0 then (sg_I h1 p0 6 3 fun v4 => if ¬ v4 = 110 then (sg_R h1 p0 6 2 fun q5 => sg_I h1 p0 6 3 fun v6 => ss_I h1 q5 v6 x1 fun h7 => sg_I h7 p0 6 3 fun v8 => sp_I h7 p0 6 3 (v8 + 1) fun h9 => sg_I h9 p0 6 3 fun v10 => Q (some (.int v10)) h9) else (Q (some (.int ((-3)))) h1)) else (Q (some (.int ((-1)))) h1)
set_option maxRecDepth 100000 in
set_option maxHeartbeats 4000000 in
theorem bl_X7_type_0 {X : aw_X} {Q : aw_R} (C : aw_C X cX7_type RX7 2 1) (Z : aw_Z X cX7_type (some .int) Q) (p0 : Nat) (x1 : Int32) (h : aw_H) (hh : sm_X7_type_0  Q p0 x1 h) : Sat X 0 [.ref p0, .int x1] [] h := by
  unfold sm_X7_type_0 at hh
  refine ow_iload_n C dX7_type_0 rfl rfl ?_
  refine ow_bipush (v := 32) C dX7_type_1 rfl ?_
  refine ow_bipush (v := 126) C dX7_type_3 rfl ?_
  refine ow_callS C (cs_X7_in _) (Nat.le_of_ble_eq_true rfl) kw_541 dX7_type_5 (as := [.int x1, .int 32, .int 126]) (st := []) rfl rfl (Nat.le_of_ble_eq_true rfl) hh (fun r2 h1 hq => ?_)
  obtain ⟨v3, rfl, hh⟩ := sr_I_e hq
  show Sat X 8 [.ref p0, .int x1] [.int v3] h1
  refine ow_if_ne (tgt := 13) C dX7_type_8 (by decide) hh (fun hh => ?_) (fun hh => ?_)
  · skip
    refine ow_aload_n C dX7_type_13 rfl rfl ?_
    refine ow_getI (ci := 6) (k := 3) (T := TX7) C rfl igX7 (by decide) kw_591 dX7_type_14 hh (fun v4 hh => ?_)
    refine ow_bipush (v := 110) C dX7_type_17 rfl ?_
    refine ow_icmp_ne (tgt := 25) C dX7_type_19 (by decide) hh (fun hh => ?_) (fun hh => ?_)
    · skip
      refine ow_aload_n C dX7_type_25 rfl rfl ?_
      refine ow_getR (ci := 6) (k := 2) (T := TX7) C rfl igX7 (by decide) kw_592 dX7_type_26 hh (fun q5 hh => ?_)
      refine ow_aload_n C dX7_type_29 rfl rfl ?_
      refine ow_getI (ci := 6) (k := 3) (T := TX7) C rfl igX7 (by decide) kw_591 dX7_type_30 hh (fun v6 hh => ?_)
      refine ow_iload_n C dX7_type_33 rfl rfl ?_
      refine ow_iastore C dX7_type_34 hh (fun h7 hh => ?_)
      refine ow_aload_n C dX7_type_35 rfl rfl ?_
      refine ow_dup C dX7_type_36 rfl ?_
      refine ow_getI (ci := 6) (k := 3) (T := TX7) C rfl igX7 (by decide) kw_591 dX7_type_37 hh (fun v8 hh => ?_)
      refine ow_iconst (v := 1) C dX7_type_40 rfl ?_
      refine ow_iadd C dX7_type_41 ?_
      refine ow_putI (ci := 6) (k := 3) (T := TX7) C rfl igX7 tyX7 tyX7_ok nmX7 (by decide) kw_591 rfl (by decide +kernel) dX7_type_42 hh (fun h9 hh => ?_)
      refine ow_aload_n C dX7_type_45 rfl rfl ?_
      refine ow_getI (ci := 6) (k := 3) (T := TX7) C rfl igX7 (by decide) kw_591 dX7_type_46 hh (fun v10 hh => ?_)
      exact ow_iret Z dX7_type_49 trivial hh
    · skip
      refine ow_bipush (v := (-3)) C dX7_type_22 rfl ?_
      exact ow_iret Z dX7_type_24 trivial hh
  · skip
    refine ow_iconst (v := (-1)) C dX7_type_11 rfl ?_
    exact ow_iret Z dX7_type_12 trivial hh
def tr_X7_type : aw_T := fun as h Q => ∃ (p0 : Nat) (x1 : Int32), as = [.ref p0, .int x1] ∧ (sm_X7_type_0  Q p0 x1 h)
theorem tq_X7_type {p0 : Nat} {x1 : Int32} {h : aw_H} {Q : aw_R} : tr_X7_type [.ref p0, .int x1] h Q ↔ (sm_X7_type_0  Q p0 x1 h) := by
  constructor
  · rintro ⟨_, _, as0, hh⟩
    cases as0
    exact hh
  · intro hh
    exact ⟨_, _, rfl, hh⟩
theorem ct_X7_type (E : aw_F) : CT E yX7_type cX7_type 2 (some .int) 1 tr_X7_type := by
  refine ct_of (by decide) ?_
  intro X Q as h hE C Z hG
  subst hE
  obtain ⟨p0, x1, rfl, hh⟩ := hG
  refine ⟨[.ref p0, .int x1], rfl, Nat.le_of_ble_eq_true rfl, ?_⟩
  exact bl_X7_type_0 C Z p0 x1 h hh
theorem cv_X7_type (E : aw_F) : CV E yX7_type cX7_type 2 (some .int) 1 1 6 tr_X7_type := ⟨ct_X7_type E, by decide, kw_594, kw_595, kw_527, kw_593, by decide +kernel, _, _, rfl⟩
theorem dX7_here_0 : decode cX7_here 0 = .ok (.aload_n 0, 1) := by decide +kernel
theorem dX7_here_1 : decode cX7_here 1 = .ok (.getfield 90, 3) := by decide +kernel
theorem dX7_here_4 : decode cX7_here 4 = .ok (.aload_n 0, 1) := by decide +kernel
theorem dX7_here_5 : decode cX7_here 5 = .ok (.getfield 86, 3) := by decide +kernel
theorem dX7_here_8 : decode cX7_here 8 = .ok (.if_icmp .ge 30, 3) := by decide +kernel
theorem dX7_here_11 : decode cX7_here 11 = .ok (.aload_n 0, 1) := by decide +kernel
theorem dX7_here_12 : decode cX7_here 12 = .ok (.getfield 13, 3) := by decide +kernel
theorem dX7_here_15 : decode cX7_here 15 = .ok (.aload_n 0, 1) := by decide +kernel
theorem dX7_here_16 : decode cX7_here 16 = .ok (.getfield 90, 3) := by decide +kernel
theorem dX7_here_19 : decode cX7_here 19 = .ok (.iaload, 1) := by decide +kernel
theorem dX7_here_20 : decode cX7_here 20 = .ok (.bipush 32, 2) := by decide +kernel
theorem dX7_here_22 : decode cX7_here 22 = .ok (.if_icmp .ne 16, 3) := by decide +kernel
theorem dX7_here_25 : decode cX7_here 25 = .ok (.aload_n 0, 1) := by decide +kernel
theorem dX7_here_26 : decode cX7_here 26 = .ok (.dup, 1) := by decide +kernel
theorem dX7_here_27 : decode cX7_here 27 = .ok (.getfield 90, 3) := by decide +kernel
theorem dX7_here_30 : decode cX7_here 30 = .ok (.iconst 1, 1) := by decide +kernel
theorem dX7_here_31 : decode cX7_here 31 = .ok (.iadd, 1) := by decide +kernel
theorem dX7_here_32 : decode cX7_here 32 = .ok (.putfield 90, 3) := by decide +kernel
theorem dX7_here_35 : decode cX7_here 35 = .ok (.goto (-35), 3) := by decide +kernel
theorem dX7_here_38 : decode cX7_here 38 = .ok (.aload_n 0, 1) := by decide +kernel
theorem dX7_here_39 : decode cX7_here 39 = .ok (.getfield 90, 3) := by decide +kernel
theorem dX7_here_42 : decode cX7_here 42 = .ok (.aload_n 0, 1) := by decide +kernel
theorem dX7_here_43 : decode cX7_here 43 = .ok (.getfield 86, 3) := by decide +kernel
theorem dX7_here_46 : decode cX7_here 46 = .ok (.if_icmp .ge 15, 3) := by decide +kernel
theorem dX7_here_49 : decode cX7_here 49 = .ok (.aload_n 0, 1) := by decide +kernel
theorem dX7_here_50 : decode cX7_here 50 = .ok (.getfield 13, 3) := by decide +kernel
theorem dX7_here_53 : decode cX7_here 53 = .ok (.aload_n 0, 1) := by decide +kernel
theorem dX7_here_54 : decode cX7_here 54 = .ok (.getfield 90, 3) := by decide +kernel
theorem dX7_here_57 : decode cX7_here 57 = .ok (.iaload, 1) := by decide +kernel
theorem dX7_here_58 : decode cX7_here 58 = .ok (.goto 4, 3) := by decide +kernel
theorem dX7_here_61 : decode cX7_here 61 = .ok (.iconst 0, 1) := by decide +kernel
theorem dX7_here_62 : decode cX7_here 62 = .ok (.ireturn, 1) := by decide +kernel
def sm_X7_here_0 (K0 : Nat → aw_H → Prop) (Q : aw_R) (p0 : Nat) (h : aw_H) : Prop :=
  sg_I h p0 6 8 fun v1 => sg_I h p0 6 3 fun v2 => if v2 ≤ v1 then (sg_I h p0 6 8 fun v3 => sg_I h p0 6 3 fun v4 => if v4 ≤ v3 then (Q (some (.int 0)) h) else (sg_R h p0 6 2 fun q5 => sg_I h p0 6 8 fun v6 => sa_I h q5 v6 fun v7 => Q (some (.int v7)) h)) else (sg_R h p0 6 2 fun q8 => sg_I h p0 6 8 fun v9 => sa_I h q8 v9 fun v10 => if ¬ v10 = 32 then (sg_I h p0 6 8 fun v11 => sg_I h p0 6 3 fun v12 => if v12 ≤ v11 then (Q (some (.int 0)) h) else (sg_R h p0 6 2 fun q13 => sg_I h p0 6 8 fun v14 => sa_I h q13 v14 fun v15 => Q (some (.int v15)) h)) else (sg_I h p0 6 8 fun v16 => sp_I h p0 6 8 (v16 + 1) fun h17 => K0 p0 h17))
set_option maxRecDepth 100000 in
set_option maxHeartbeats 4000000 in
theorem bl_X7_here_0 {X : aw_X} {Q : aw_R} (C : aw_C X cX7_here RX7 1 0) (Z : aw_Z X cX7_here (some .int) Q) (p0 : Nat) (h : aw_H) (hh : sm_X7_here_0 (fun (p0 : Nat) (h : aw_H) => Sat X 0 [.ref p0] [] h) Q p0 h) : Sat X 0 [.ref p0] [] h := by
  unfold sm_X7_here_0 at hh
  refine ow_aload_n C dX7_here_0 rfl rfl ?_
  refine ow_getI (ci := 6) (k := 8) (T := TX7) C rfl igX7 (by decide) kw_596 dX7_here_1 hh (fun v1 hh => ?_)
  refine ow_aload_n C dX7_here_4 rfl rfl ?_
  refine ow_getI (ci := 6) (k := 3) (T := TX7) C rfl igX7 (by decide) kw_591 dX7_here_5 hh (fun v2 hh => ?_)
  refine ow_icmp_ge (tgt := 38) C dX7_here_8 (by decide) hh (fun hh => ?_) (fun hh => ?_)
  · skip
    refine ow_aload_n C dX7_here_38 rfl rfl ?_
    refine ow_getI (ci := 6) (k := 8) (T := TX7) C rfl igX7 (by decide) kw_596 dX7_here_39 hh (fun v3 hh => ?_)
    refine ow_aload_n C dX7_here_42 rfl rfl ?_
    refine ow_getI (ci := 6) (k := 3) (T := TX7) C rfl igX7 (by decide) kw_591 dX7_here_43 hh (fun v4 hh => ?_)
    refine ow_icmp_ge (tgt := 61) C dX7_here_46 (by decide) hh (fun hh => ?_) (fun hh => ?_)
    · skip
      refine ow_iconst (v := 0) C dX7_here_61 rfl ?_
      exact ow_iret Z dX7_here_62 trivial hh
    · skip
      refine ow_aload_n C dX7_here_49 rfl rfl ?_
      refine ow_getR (ci := 6) (k := 2) (T := TX7) C rfl igX7 (by decide) kw_592 dX7_here_50 hh (fun q5 hh => ?_)
      refine ow_aload_n C dX7_here_53 rfl rfl ?_
      refine ow_getI (ci := 6) (k := 8) (T := TX7) C rfl igX7 (by decide) kw_596 dX7_here_54 hh (fun v6 hh => ?_)
      refine ow_iaload C dX7_here_57 hh (fun v7 hh => ?_)
      refine ow_goto (tgt := 62) C dX7_here_58 (by decide) ?_
      exact ow_iret Z dX7_here_62 trivial hh
  · skip
    refine ow_aload_n C dX7_here_11 rfl rfl ?_
    refine ow_getR (ci := 6) (k := 2) (T := TX7) C rfl igX7 (by decide) kw_592 dX7_here_12 hh (fun q8 hh => ?_)
    refine ow_aload_n C dX7_here_15 rfl rfl ?_
    refine ow_getI (ci := 6) (k := 8) (T := TX7) C rfl igX7 (by decide) kw_596 dX7_here_16 hh (fun v9 hh => ?_)
    refine ow_iaload C dX7_here_19 hh (fun v10 hh => ?_)
    refine ow_bipush (v := 32) C dX7_here_20 rfl ?_
    refine ow_icmp_ne (tgt := 38) C dX7_here_22 (by decide) hh (fun hh => ?_) (fun hh => ?_)
    · skip
      refine ow_aload_n C dX7_here_38 rfl rfl ?_
      refine ow_getI (ci := 6) (k := 8) (T := TX7) C rfl igX7 (by decide) kw_596 dX7_here_39 hh (fun v11 hh => ?_)
      refine ow_aload_n C dX7_here_42 rfl rfl ?_
      refine ow_getI (ci := 6) (k := 3) (T := TX7) C rfl igX7 (by decide) kw_591 dX7_here_43 hh (fun v12 hh => ?_)
      refine ow_icmp_ge (tgt := 61) C dX7_here_46 (by decide) hh (fun hh => ?_) (fun hh => ?_)
      · skip
        refine ow_iconst (v := 0) C dX7_here_61 rfl ?_
        exact ow_iret Z dX7_here_62 trivial hh
      · skip
        refine ow_aload_n C dX7_here_49 rfl rfl ?_
        refine ow_getR (ci := 6) (k := 2) (T := TX7) C rfl igX7 (by decide) kw_592 dX7_here_50 hh (fun q13 hh => ?_)
        refine ow_aload_n C dX7_here_53 rfl rfl ?_
        refine ow_getI (ci := 6) (k := 8) (T := TX7) C rfl igX7 (by decide) kw_596 dX7_here_54 hh (fun v14 hh => ?_)
        refine ow_iaload C dX7_here_57 hh (fun v15 hh => ?_)
        refine ow_goto (tgt := 62) C dX7_here_58 (by decide) ?_
        exact ow_iret Z dX7_here_62 trivial hh
    · skip
      refine ow_aload_n C dX7_here_25 rfl rfl ?_
      refine ow_dup C dX7_here_26 rfl ?_
      refine ow_getI (ci := 6) (k := 8) (T := TX7) C rfl igX7 (by decide) kw_596 dX7_here_27 hh (fun v16 hh => ?_)
      refine ow_iconst (v := 1) C dX7_here_30 rfl ?_
      refine ow_iadd C dX7_here_31 ?_
      refine ow_putI (ci := 6) (k := 8) (T := TX7) C rfl igX7 tyX7 tyX7_ok nmX7 (by decide) kw_596 rfl (by decide +kernel) dX7_here_32 hh (fun h17 hh => ?_)
      refine ow_goto (tgt := 0) C dX7_here_35 (by decide) ?_
      exact Sat.mask hh (mk_y mk_0)
def tr_X7_here : aw_T := fun as h Q => ∃ (p0 : Nat), as = [.ref p0] ∧ (∀ (K0 : Nat → aw_H → Prop), (∀ (p0 : Nat) (h : aw_H), sm_X7_here_0 K0 Q p0 h → K0 p0 h) → K0 p0 h)
theorem tq_X7_here {p0 : Nat} {h : aw_H} {Q : aw_R} : tr_X7_here [.ref p0] h Q ↔ (∀ (K0 : Nat → aw_H → Prop), (∀ (p0 : Nat) (h : aw_H), sm_X7_here_0 K0 Q p0 h → K0 p0 h) → K0 p0 h) := by
  constructor
  · rintro ⟨_, as0, hh⟩
    cases as0
    exact hh
  · intro hh
    exact ⟨_, rfl, hh⟩
theorem ct_X7_here (E : aw_F) : CT E yX7_here cX7_here 1 (some .int) 0 tr_X7_here := by
  refine ct_of (by decide) ?_
  intro X Q as h hE C Z hG
  subst hE
  obtain ⟨p0, rfl, hh⟩ := hG
  refine ⟨[.ref p0], rfl, Nat.le_of_ble_eq_true rfl, ?_⟩
  exact Sat.mask (hh (fun (p0 : Nat) (h : aw_H) => Sat X 0 [.ref p0] [] h) (fun p0 h hh => bl_X7_here_0 C Z p0 h hh)) (mk_y mk_0)
theorem cv_X7_here (E : aw_F) : CV E yX7_here cX7_here 1 (some .int) 0 0 6 tr_X7_here := ⟨ct_X7_here E, by decide, kw_598, kw_599, kw_527, kw_597, by decide +kernel, _, _, rfl⟩
theorem dX7_fine_0 : decode cX7_fine 0 = .ok (.aload_n 0, 1) := by decide +kernel
theorem dX7_fine_1 : decode cX7_fine 1 = .ok (.getfield 93, 3) := by decide +kernel
theorem dX7_fine_4 : decode cX7_fine 4 = .ok (.bipush (-4), 2) := by decide +kernel
theorem dX7_fine_6 : decode cX7_fine 6 = .ok (.if_icmp .ne 7, 3) := by decide +kernel
theorem dX7_fine_9 : decode cX7_fine 9 = .ok (.iconst 1, 1) := by decide +kernel
theorem dX7_fine_10 : decode cX7_fine 10 = .ok (.goto 4, 3) := by decide +kernel
theorem dX7_fine_13 : decode cX7_fine 13 = .ok (.iconst 0, 1) := by decide +kernel
theorem dX7_fine_14 : decode cX7_fine 14 = .ok (.ireturn, 1) := by decide +kernel
def sm_X7_fine_0  (Q : aw_R) (p0 : Nat) (h : aw_H) : Prop :=
  sg_I h p0 6 9 fun v1 => if ¬ v1 = ((-4)) then (Q (some (.int 0)) h) else (Q (some (.int 1)) h)
set_option maxRecDepth 100000 in
set_option maxHeartbeats 4000000 in
theorem bl_X7_fine_0 {X : aw_X} {Q : aw_R} (C : aw_C X cX7_fine RX7 1 0) (Z : aw_Z X cX7_fine (some .boolean) Q) (p0 : Nat) (h : aw_H) (hh : sm_X7_fine_0  Q p0 h) : Sat X 0 [.ref p0] [] h := by
  unfold sm_X7_fine_0 at hh
  refine ow_aload_n C dX7_fine_0 rfl rfl ?_
  refine ow_getI (ci := 6) (k := 9) (T := TX7) C rfl igX7 (by decide) kw_600 dX7_fine_1 hh (fun v1 hh => ?_)
  refine ow_bipush (v := (-4)) C dX7_fine_4 rfl ?_
  refine ow_icmp_ne (tgt := 13) C dX7_fine_6 (by decide) hh (fun hh => ?_) (fun hh => ?_)
  · skip
    refine ow_iconst (v := 0) C dX7_fine_13 rfl ?_
    exact ow_iret Z dX7_fine_14 (Or.inl rfl) hh
  · skip
    refine ow_iconst (v := 1) C dX7_fine_9 rfl ?_
    refine ow_goto (tgt := 14) C dX7_fine_10 (by decide) ?_
    exact ow_iret Z dX7_fine_14 (Or.inr rfl) hh
def tr_X7_fine : aw_T := fun as h Q => ∃ (p0 : Nat), as = [.ref p0] ∧ (sm_X7_fine_0  Q p0 h)
theorem tq_X7_fine {p0 : Nat} {h : aw_H} {Q : aw_R} : tr_X7_fine [.ref p0] h Q ↔ (sm_X7_fine_0  Q p0 h) := by
  constructor
  · rintro ⟨_, as0, hh⟩
    cases as0
    exact hh
  · intro hh
    exact ⟨_, rfl, hh⟩
theorem ct_X7_fine (E : aw_F) : CT E yX7_fine cX7_fine 1 (some .boolean) 0 tr_X7_fine := by
  refine ct_of (by decide) ?_
  intro X Q as h hE C Z hG
  subst hE
  obtain ⟨p0, rfl, hh⟩ := hG
  refine ⟨[.ref p0], rfl, Nat.le_of_ble_eq_true rfl, ?_⟩
  exact bl_X7_fine_0 C Z p0 h hh
theorem cv_X7_fine (E : aw_F) : CV E yX7_fine cX7_fine 1 (some .boolean) 0 0 6 tr_X7_fine := ⟨ct_X7_fine E, by decide, kw_602, kw_603, kw_527, kw_601, by decide +kernel, _, _, rfl⟩
