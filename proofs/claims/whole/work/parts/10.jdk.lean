theorem dJ7_fill_53178_0 : decode cJ7_fill_53178 0 = .ok (.iconst 0, 1) := by decide +kernel
theorem dJ7_fill_53178_1 : decode cJ7_fill_53178 1 = .ok (.istore_n 2, 1) := by decide +kernel
theorem dJ7_fill_53178_2 : decode cJ7_fill_53178 2 = .ok (.aload_n 0, 1) := by decide +kernel
theorem dJ7_fill_53178_3 : decode cJ7_fill_53178 3 = .ok (.arraylength, 1) := by decide +kernel
theorem dJ7_fill_53178_4 : decode cJ7_fill_53178 4 = .ok (.istore_n 3, 1) := by decide +kernel
theorem dJ7_fill_53178_5 : decode cJ7_fill_53178 5 = .ok (.iload_n 2, 1) := by decide +kernel
theorem dJ7_fill_53178_6 : decode cJ7_fill_53178 6 = .ok (.iload_n 3, 1) := by decide +kernel
theorem dJ7_fill_53178_7 : decode cJ7_fill_53178 7 = .ok (.if_icmp .ge 13, 3) := by decide +kernel
theorem dJ7_fill_53178_10 : decode cJ7_fill_53178 10 = .ok (.aload_n 0, 1) := by decide +kernel
theorem dJ7_fill_53178_11 : decode cJ7_fill_53178 11 = .ok (.iload_n 2, 1) := by decide +kernel
theorem dJ7_fill_53178_12 : decode cJ7_fill_53178 12 = .ok (.iload_n 1, 1) := by decide +kernel
theorem dJ7_fill_53178_13 : decode cJ7_fill_53178 13 = .ok (.iastore, 1) := by decide +kernel
theorem dJ7_fill_53178_14 : decode cJ7_fill_53178 14 = .ok (.iinc 2 1, 3) := by decide +kernel
theorem dJ7_fill_53178_17 : decode cJ7_fill_53178 17 = .ok (.goto (-12), 3) := by decide +kernel
theorem dJ7_fill_53178_20 : decode cJ7_fill_53178 20 = .ok (.return_, 1) := by decide +kernel
def sm_J7_fill_53178_5 (K5 : Nat → Int32 → Int32 → Int32 → aw_H → Prop) (Q : aw_R) (p0 : Nat) (x1 : Int32) (x2 : Int32) (x3 : Int32) (h : aw_H) : Prop :=
  if x3 ≤ x2 then (Q none h) else (ss_I h p0 x2 x1 fun h1 => K5 p0 x1 (x2 + 1) x3 h1)
set_option maxRecDepth 100000 in
set_option maxHeartbeats 4000000 in
theorem bl_J7_fill_53178_5 {X : aw_X} {Q : aw_R} (C : aw_C X cJ7_fill_53178 RJ7 4 0) (Z : aw_Z X cJ7_fill_53178 none Q) (p0 : Nat) (x1 : Int32) (x2 : Int32) (x3 : Int32) (h : aw_H) (hh : sm_J7_fill_53178_5 (fun (p0 : Nat) (x1 : Int32) (x2 : Int32) (x3 : Int32) (h : aw_H) => Sat X 5 [.ref p0, .int x1, .int x2, .int x3] [] h) Q p0 x1 x2 x3 h) : Sat X 5 [.ref p0, .int x1, .int x2, .int x3] [] h := by
  unfold sm_J7_fill_53178_5 at hh
  refine ow_iload_n C dJ7_fill_53178_5 rfl rfl ?_
  refine ow_iload_n C dJ7_fill_53178_6 rfl rfl ?_
  refine ow_icmp_ge (tgt := 20) C dJ7_fill_53178_7 (by decide) hh (fun hh => ?_) (fun hh => ?_)
  · skip
    exact ow_vret Z dJ7_fill_53178_20 trivial hh
  · skip
    refine ow_aload_n C dJ7_fill_53178_10 rfl rfl ?_
    refine ow_iload_n C dJ7_fill_53178_11 rfl rfl ?_
    refine ow_iload_n C dJ7_fill_53178_12 rfl rfl ?_
    refine ow_iastore C dJ7_fill_53178_13 hh (fun h1 hh => ?_)
    refine ow_iinc (v := x2 + 1) (L' := [.ref p0, .int x1, .int (x2 + 1), .int x3]) C dJ7_fill_53178_14 rfl rfl (by decide) rfl ?_
    refine ow_goto (tgt := 5) C dJ7_fill_53178_17 (by decide) ?_
    exact Sat.mask hh (mk_y (mk_y (mk_y (mk_y mk_0))))
def sm_J7_fill_53178_0 (K5 : Nat → Int32 → Int32 → Int32 → aw_H → Prop) (Q : aw_R) (p0 : Nat) (x1 : Int32) (h : aw_H) : Prop :=
  sa_N h p0 fun v1 => K5 p0 x1 0 v1 h
set_option maxRecDepth 100000 in
set_option maxHeartbeats 4000000 in
theorem bl_J7_fill_53178_0 {X : aw_X} {Q : aw_R} (C : aw_C X cJ7_fill_53178 RJ7 4 0) (Z : aw_Z X cJ7_fill_53178 none Q) (p0 : Nat) (x1 : Int32) (h : aw_H) (hh : sm_J7_fill_53178_0 (fun (p0 : Nat) (x1 : Int32) (x2 : Int32) (x3 : Int32) (h : aw_H) => Sat X 5 [.ref p0, .int x1, .int x2, .int x3] [] h) Q p0 x1 h) : Sat X 0 [.ref p0, .int x1, Value.null, Value.null] [] h := by
  unfold sm_J7_fill_53178_0 at hh
  refine ow_iconst (v := 0) C dJ7_fill_53178_0 rfl ?_
  refine ow_istore_n (L' := [.ref p0, .int x1, .int 0, Value.null]) C dJ7_fill_53178_1 rfl (by decide) rfl ?_
  refine ow_aload_n C dJ7_fill_53178_2 rfl rfl ?_
  refine ow_alen C dJ7_fill_53178_3 hh (fun v1 hh => ?_)
  refine ow_istore_n (L' := [.ref p0, .int x1, .int 0, .int v1]) C dJ7_fill_53178_4 rfl (by decide) rfl ?_
  exact Sat.mask hh (mk_y (mk_y (mk_y (mk_y mk_0))))
def tr_J7_fill_53178 : aw_T := fun as h Q => ∃ (p0 : Nat) (x1 : Int32), as = [.ref p0, .int x1] ∧ (∀ (K5 : Nat → Int32 → Int32 → Int32 → aw_H → Prop), (∀ (p0 : Nat) (x1 : Int32) (x2 : Int32) (x3 : Int32) (h : aw_H), sm_J7_fill_53178_5 K5 Q p0 x1 x2 x3 h → K5 p0 x1 x2 x3 h) → sm_J7_fill_53178_0 K5 Q p0 x1 h)
theorem tq_J7_fill_53178 {p0 : Nat} {x1 : Int32} {h : aw_H} {Q : aw_R} : tr_J7_fill_53178 [.ref p0, .int x1] h Q ↔ (∀ (K5 : Nat → Int32 → Int32 → Int32 → aw_H → Prop), (∀ (p0 : Nat) (x1 : Int32) (x2 : Int32) (x3 : Int32) (h : aw_H), sm_J7_fill_53178_5 K5 Q p0 x1 x2 x3 h → K5 p0 x1 x2 x3 h) → sm_J7_fill_53178_0 K5 Q p0 x1 h) := by
  constructor
  · rintro ⟨_, _, as0, hh⟩
    cases as0
    exact hh
  · intro hh
    exact ⟨_, _, rfl, hh⟩
theorem ct_J7_fill_53178 (E : aw_F) : CT E yJ7_fill_53178 cJ7_fill_53178 4 none 0 tr_J7_fill_53178 := by
  refine ct_of (by decide) ?_
  intro X Q as h hE C Z hG
  subst hE
  obtain ⟨p0, x1, rfl, hh⟩ := hG
  refine ⟨[.ref p0, .int x1, Value.null, Value.null], rfl, Nat.le_of_ble_eq_true rfl, ?_⟩
  exact bl_J7_fill_53178_0 C Z p0 x1 h (hh (fun (p0 : Nat) (x1 : Int32) (x2 : Int32) (x3 : Int32) (h : aw_H) => Sat X 5 [.ref p0, .int x1, .int x2, .int x3] [] h) (fun p0 x1 x2 x3 h hh => bl_J7_fill_53178_5 C Z p0 x1 x2 x3 h hh))
theorem cs_J7_fill_53178 (E : aw_F) : CS E yJ7_fill_53178 cJ7_fill_53178 4 none 0 2 tr_J7_fill_53178 := ⟨ct_J7_fill_53178 E, by decide, kw_2, kw_1, kw_0, by decide +kernel⟩
theorem dJ6_bitCount_0f7a4_0 : decode cJ6_bitCount_0f7a4 0 = .ok (.iload_n 0, 1) := by decide +kernel
theorem dJ6_bitCount_0f7a4_1 : decode cJ6_bitCount_0f7a4 1 = .ok (.iload_n 0, 1) := by decide +kernel
theorem dJ6_bitCount_0f7a4_2 : decode cJ6_bitCount_0f7a4 2 = .ok (.iconst 1, 1) := by decide +kernel
theorem dJ6_bitCount_0f7a4_3 : decode cJ6_bitCount_0f7a4 3 = .ok (.iushr, 1) := by decide +kernel
theorem dJ6_bitCount_0f7a4_4 : decode cJ6_bitCount_0f7a4 4 = .ok (.ldc_w 265, 3) := by decide +kernel
theorem dJ6_bitCount_0f7a4_7 : decode cJ6_bitCount_0f7a4 7 = .ok (.iand, 1) := by decide +kernel
theorem dJ6_bitCount_0f7a4_8 : decode cJ6_bitCount_0f7a4 8 = .ok (.isub, 1) := by decide +kernel
theorem dJ6_bitCount_0f7a4_9 : decode cJ6_bitCount_0f7a4 9 = .ok (.istore_n 0, 1) := by decide +kernel
theorem dJ6_bitCount_0f7a4_10 : decode cJ6_bitCount_0f7a4 10 = .ok (.iload_n 0, 1) := by decide +kernel
theorem dJ6_bitCount_0f7a4_11 : decode cJ6_bitCount_0f7a4 11 = .ok (.ldc_w 266, 3) := by decide +kernel
theorem dJ6_bitCount_0f7a4_14 : decode cJ6_bitCount_0f7a4 14 = .ok (.iand, 1) := by decide +kernel
theorem dJ6_bitCount_0f7a4_15 : decode cJ6_bitCount_0f7a4 15 = .ok (.iload_n 0, 1) := by decide +kernel
theorem dJ6_bitCount_0f7a4_16 : decode cJ6_bitCount_0f7a4 16 = .ok (.iconst 2, 1) := by decide +kernel
theorem dJ6_bitCount_0f7a4_17 : decode cJ6_bitCount_0f7a4 17 = .ok (.iushr, 1) := by decide +kernel
theorem dJ6_bitCount_0f7a4_18 : decode cJ6_bitCount_0f7a4 18 = .ok (.ldc_w 266, 3) := by decide +kernel
theorem dJ6_bitCount_0f7a4_21 : decode cJ6_bitCount_0f7a4 21 = .ok (.iand, 1) := by decide +kernel
theorem dJ6_bitCount_0f7a4_22 : decode cJ6_bitCount_0f7a4 22 = .ok (.iadd, 1) := by decide +kernel
theorem dJ6_bitCount_0f7a4_23 : decode cJ6_bitCount_0f7a4 23 = .ok (.istore_n 0, 1) := by decide +kernel
theorem dJ6_bitCount_0f7a4_24 : decode cJ6_bitCount_0f7a4 24 = .ok (.iload_n 0, 1) := by decide +kernel
theorem dJ6_bitCount_0f7a4_25 : decode cJ6_bitCount_0f7a4 25 = .ok (.iload_n 0, 1) := by decide +kernel
theorem dJ6_bitCount_0f7a4_26 : decode cJ6_bitCount_0f7a4 26 = .ok (.iconst 4, 1) := by decide +kernel
theorem dJ6_bitCount_0f7a4_27 : decode cJ6_bitCount_0f7a4 27 = .ok (.iushr, 1) := by decide +kernel
theorem dJ6_bitCount_0f7a4_28 : decode cJ6_bitCount_0f7a4 28 = .ok (.iadd, 1) := by decide +kernel
theorem dJ6_bitCount_0f7a4_29 : decode cJ6_bitCount_0f7a4 29 = .ok (.ldc_w 267, 3) := by decide +kernel
theorem dJ6_bitCount_0f7a4_32 : decode cJ6_bitCount_0f7a4 32 = .ok (.iand, 1) := by decide +kernel
theorem dJ6_bitCount_0f7a4_33 : decode cJ6_bitCount_0f7a4 33 = .ok (.istore_n 0, 1) := by decide +kernel
theorem dJ6_bitCount_0f7a4_34 : decode cJ6_bitCount_0f7a4 34 = .ok (.iload_n 0, 1) := by decide +kernel
theorem dJ6_bitCount_0f7a4_35 : decode cJ6_bitCount_0f7a4 35 = .ok (.iload_n 0, 1) := by decide +kernel
theorem dJ6_bitCount_0f7a4_36 : decode cJ6_bitCount_0f7a4 36 = .ok (.bipush 8, 2) := by decide +kernel
theorem dJ6_bitCount_0f7a4_38 : decode cJ6_bitCount_0f7a4 38 = .ok (.iushr, 1) := by decide +kernel
theorem dJ6_bitCount_0f7a4_39 : decode cJ6_bitCount_0f7a4 39 = .ok (.iadd, 1) := by decide +kernel
theorem dJ6_bitCount_0f7a4_40 : decode cJ6_bitCount_0f7a4 40 = .ok (.istore_n 0, 1) := by decide +kernel
theorem dJ6_bitCount_0f7a4_41 : decode cJ6_bitCount_0f7a4 41 = .ok (.iload_n 0, 1) := by decide +kernel
theorem dJ6_bitCount_0f7a4_42 : decode cJ6_bitCount_0f7a4 42 = .ok (.iload_n 0, 1) := by decide +kernel
theorem dJ6_bitCount_0f7a4_43 : decode cJ6_bitCount_0f7a4 43 = .ok (.bipush 16, 2) := by decide +kernel
theorem dJ6_bitCount_0f7a4_45 : decode cJ6_bitCount_0f7a4 45 = .ok (.iushr, 1) := by decide +kernel
theorem dJ6_bitCount_0f7a4_46 : decode cJ6_bitCount_0f7a4 46 = .ok (.iadd, 1) := by decide +kernel
theorem dJ6_bitCount_0f7a4_47 : decode cJ6_bitCount_0f7a4 47 = .ok (.istore_n 0, 1) := by decide +kernel
theorem dJ6_bitCount_0f7a4_48 : decode cJ6_bitCount_0f7a4 48 = .ok (.iload_n 0, 1) := by decide +kernel
theorem dJ6_bitCount_0f7a4_49 : decode cJ6_bitCount_0f7a4 49 = .ok (.bipush 63, 2) := by decide +kernel
theorem dJ6_bitCount_0f7a4_51 : decode cJ6_bitCount_0f7a4 51 = .ok (.iand, 1) := by decide +kernel
theorem dJ6_bitCount_0f7a4_52 : decode cJ6_bitCount_0f7a4 52 = .ok (.ireturn, 1) := by decide +kernel
def sm_J6_bitCount_0f7a4_0  (Q : aw_R) (x0 : Int32) (h : aw_H) : Prop :=
  Q (some (.int ((((((((x0 - (((x0.toUInt32 >>> (Int32.toUInt32 1 &&& Int32.toUInt32 31)).toInt32) &&& 1431655765)) &&& 858993459) + ((((x0 - (((x0.toUInt32 >>> (Int32.toUInt32 1 &&& Int32.toUInt32 31)).toInt32) &&& 1431655765)).toUInt32 >>> (Int32.toUInt32 2 &&& Int32.toUInt32 31)).toInt32) &&& 858993459)) + (((((x0 - (((x0.toUInt32 >>> (Int32.toUInt32 1 &&& Int32.toUInt32 31)).toInt32) &&& 1431655765)) &&& 858993459) + ((((x0 - (((x0.toUInt32 >>> (Int32.toUInt32 1 &&& Int32.toUInt32 31)).toInt32) &&& 1431655765)).toUInt32 >>> (Int32.toUInt32 2 &&& Int32.toUInt32 31)).toInt32) &&& 858993459)).toUInt32 >>> (Int32.toUInt32 4 &&& Int32.toUInt32 31)).toInt32)) &&& 252645135) + (((((((x0 - (((x0.toUInt32 >>> (Int32.toUInt32 1 &&& Int32.toUInt32 31)).toInt32) &&& 1431655765)) &&& 858993459) + ((((x0 - (((x0.toUInt32 >>> (Int32.toUInt32 1 &&& Int32.toUInt32 31)).toInt32) &&& 1431655765)).toUInt32 >>> (Int32.toUInt32 2 &&& Int32.toUInt32 31)).toInt32) &&& 858993459)) + (((((x0 - (((x0.toUInt32 >>> (Int32.toUInt32 1 &&& Int32.toUInt32 31)).toInt32) &&& 1431655765)) &&& 858993459) + ((((x0 - (((x0.toUInt32 >>> (Int32.toUInt32 1 &&& Int32.toUInt32 31)).toInt32) &&& 1431655765)).toUInt32 >>> (Int32.toUInt32 2 &&& Int32.toUInt32 31)).toInt32) &&& 858993459)).toUInt32 >>> (Int32.toUInt32 4 &&& Int32.toUInt32 31)).toInt32)) &&& 252645135).toUInt32 >>> (Int32.toUInt32 8 &&& Int32.toUInt32 31)).toInt32)) + ((((((((x0 - (((x0.toUInt32 >>> (Int32.toUInt32 1 &&& Int32.toUInt32 31)).toInt32) &&& 1431655765)) &&& 858993459) + ((((x0 - (((x0.toUInt32 >>> (Int32.toUInt32 1 &&& Int32.toUInt32 31)).toInt32) &&& 1431655765)).toUInt32 >>> (Int32.toUInt32 2 &&& Int32.toUInt32 31)).toInt32) &&& 858993459)) + (((((x0 - (((x0.toUInt32 >>> (Int32.toUInt32 1 &&& Int32.toUInt32 31)).toInt32) &&& 1431655765)) &&& 858993459) + ((((x0 - (((x0.toUInt32 >>> (Int32.toUInt32 1 &&& Int32.toUInt32 31)).toInt32) &&& 1431655765)).toUInt32 >>> (Int32.toUInt32 2 &&& Int32.toUInt32 31)).toInt32) &&& 858993459)).toUInt32 >>> (Int32.toUInt32 4 &&& Int32.toUInt32 31)).toInt32)) &&& 252645135) + (((((((x0 - (((x0.toUInt32 >>> (Int32.toUInt32 1 &&& Int32.toUInt32 31)).toInt32) &&& 1431655765)) &&& 858993459) + ((((x0 - (((x0.toUInt32 >>> (Int32.toUInt32 1 &&& Int32.toUInt32 31)).toInt32) &&& 1431655765)).toUInt32 >>> (Int32.toUInt32 2 &&& Int32.toUInt32 31)).toInt32) &&& 858993459)) + (((((x0 - (((x0.toUInt32 >>> (Int32.toUInt32 1 &&& Int32.toUInt32 31)).toInt32) &&& 1431655765)) &&& 858993459) + ((((x0 - (((x0.toUInt32 >>> (Int32.toUInt32 1 &&& Int32.toUInt32 31)).toInt32) &&& 1431655765)).toUInt32 >>> (Int32.toUInt32 2 &&& Int32.toUInt32 31)).toInt32) &&& 858993459)).toUInt32 >>> (Int32.toUInt32 4 &&& Int32.toUInt32 31)).toInt32)) &&& 252645135).toUInt32 >>> (Int32.toUInt32 8 &&& Int32.toUInt32 31)).toInt32)).toUInt32 >>> (Int32.toUInt32 16 &&& Int32.toUInt32 31)).toInt32)) &&& 63))) h
set_option maxRecDepth 100000 in
set_option maxHeartbeats 4000000 in
theorem bl_J6_bitCount_0f7a4_0 {X : aw_X} {Q : aw_R} (C : aw_C X cJ6_bitCount_0f7a4 RJ6 1 0) (Z : aw_Z X cJ6_bitCount_0f7a4 (some .int) Q) (x0 : Int32) (h : aw_H) (hh : sm_J6_bitCount_0f7a4_0  Q x0 h) : Sat X 0 [.int x0] [] h := by
  unfold sm_J6_bitCount_0f7a4_0 at hh
  refine ow_iload_n C dJ6_bitCount_0f7a4_0 rfl rfl ?_
  refine ow_iload_n C dJ6_bitCount_0f7a4_1 rfl rfl ?_
  refine ow_iconst (v := 1) C dJ6_bitCount_0f7a4_2 rfl ?_
  refine ow_iushr C dJ6_bitCount_0f7a4_3 ?_
  refine ow_ldc_w C kw_3 dJ6_bitCount_0f7a4_4 ?_
  refine ow_iand C dJ6_bitCount_0f7a4_7 ?_
  refine ow_isub C dJ6_bitCount_0f7a4_8 ?_
  refine ow_istore_n (L' := [.int (x0 - (((x0.toUInt32 >>> (Int32.toUInt32 1 &&& Int32.toUInt32 31)).toInt32) &&& 1431655765))]) C dJ6_bitCount_0f7a4_9 rfl (by decide) rfl ?_
  refine ow_iload_n C dJ6_bitCount_0f7a4_10 rfl rfl ?_
  refine ow_ldc_w C kw_4 dJ6_bitCount_0f7a4_11 ?_
  refine ow_iand C dJ6_bitCount_0f7a4_14 ?_
  refine ow_iload_n C dJ6_bitCount_0f7a4_15 rfl rfl ?_
  refine ow_iconst (v := 2) C dJ6_bitCount_0f7a4_16 rfl ?_
  refine ow_iushr C dJ6_bitCount_0f7a4_17 ?_
  refine ow_ldc_w C kw_4 dJ6_bitCount_0f7a4_18 ?_
  refine ow_iand C dJ6_bitCount_0f7a4_21 ?_
  refine ow_iadd C dJ6_bitCount_0f7a4_22 ?_
  refine ow_istore_n (L' := [.int (((x0 - (((x0.toUInt32 >>> (Int32.toUInt32 1 &&& Int32.toUInt32 31)).toInt32) &&& 1431655765)) &&& 858993459) + ((((x0 - (((x0.toUInt32 >>> (Int32.toUInt32 1 &&& Int32.toUInt32 31)).toInt32) &&& 1431655765)).toUInt32 >>> (Int32.toUInt32 2 &&& Int32.toUInt32 31)).toInt32) &&& 858993459))]) C dJ6_bitCount_0f7a4_23 rfl (by decide) rfl ?_
  refine ow_iload_n C dJ6_bitCount_0f7a4_24 rfl rfl ?_
  refine ow_iload_n C dJ6_bitCount_0f7a4_25 rfl rfl ?_
  refine ow_iconst (v := 4) C dJ6_bitCount_0f7a4_26 rfl ?_
  refine ow_iushr C dJ6_bitCount_0f7a4_27 ?_
  refine ow_iadd C dJ6_bitCount_0f7a4_28 ?_
  refine ow_ldc_w C kw_5 dJ6_bitCount_0f7a4_29 ?_
  refine ow_iand C dJ6_bitCount_0f7a4_32 ?_
  refine ow_istore_n (L' := [.int (((((x0 - (((x0.toUInt32 >>> (Int32.toUInt32 1 &&& Int32.toUInt32 31)).toInt32) &&& 1431655765)) &&& 858993459) + ((((x0 - (((x0.toUInt32 >>> (Int32.toUInt32 1 &&& Int32.toUInt32 31)).toInt32) &&& 1431655765)).toUInt32 >>> (Int32.toUInt32 2 &&& Int32.toUInt32 31)).toInt32) &&& 858993459)) + (((((x0 - (((x0.toUInt32 >>> (Int32.toUInt32 1 &&& Int32.toUInt32 31)).toInt32) &&& 1431655765)) &&& 858993459) + ((((x0 - (((x0.toUInt32 >>> (Int32.toUInt32 1 &&& Int32.toUInt32 31)).toInt32) &&& 1431655765)).toUInt32 >>> (Int32.toUInt32 2 &&& Int32.toUInt32 31)).toInt32) &&& 858993459)).toUInt32 >>> (Int32.toUInt32 4 &&& Int32.toUInt32 31)).toInt32)) &&& 252645135)]) C dJ6_bitCount_0f7a4_33 rfl (by decide) rfl ?_
  refine ow_iload_n C dJ6_bitCount_0f7a4_34 rfl rfl ?_
  refine ow_iload_n C dJ6_bitCount_0f7a4_35 rfl rfl ?_
  refine ow_bipush (v := 8) C dJ6_bitCount_0f7a4_36 rfl ?_
  refine ow_iushr C dJ6_bitCount_0f7a4_38 ?_
  refine ow_iadd C dJ6_bitCount_0f7a4_39 ?_
  refine ow_istore_n (L' := [.int ((((((x0 - (((x0.toUInt32 >>> (Int32.toUInt32 1 &&& Int32.toUInt32 31)).toInt32) &&& 1431655765)) &&& 858993459) + ((((x0 - (((x0.toUInt32 >>> (Int32.toUInt32 1 &&& Int32.toUInt32 31)).toInt32) &&& 1431655765)).toUInt32 >>> (Int32.toUInt32 2 &&& Int32.toUInt32 31)).toInt32) &&& 858993459)) + (((((x0 - (((x0.toUInt32 >>> (Int32.toUInt32 1 &&& Int32.toUInt32 31)).toInt32) &&& 1431655765)) &&& 858993459) + ((((x0 - (((x0.toUInt32 >>> (Int32.toUInt32 1 &&& Int32.toUInt32 31)).toInt32) &&& 1431655765)).toUInt32 >>> (Int32.toUInt32 2 &&& Int32.toUInt32 31)).toInt32) &&& 858993459)).toUInt32 >>> (Int32.toUInt32 4 &&& Int32.toUInt32 31)).toInt32)) &&& 252645135) + (((((((x0 - (((x0.toUInt32 >>> (Int32.toUInt32 1 &&& Int32.toUInt32 31)).toInt32) &&& 1431655765)) &&& 858993459) + ((((x0 - (((x0.toUInt32 >>> (Int32.toUInt32 1 &&& Int32.toUInt32 31)).toInt32) &&& 1431655765)).toUInt32 >>> (Int32.toUInt32 2 &&& Int32.toUInt32 31)).toInt32) &&& 858993459)) + (((((x0 - (((x0.toUInt32 >>> (Int32.toUInt32 1 &&& Int32.toUInt32 31)).toInt32) &&& 1431655765)) &&& 858993459) + ((((x0 - (((x0.toUInt32 >>> (Int32.toUInt32 1 &&& Int32.toUInt32 31)).toInt32) &&& 1431655765)).toUInt32 >>> (Int32.toUInt32 2 &&& Int32.toUInt32 31)).toInt32) &&& 858993459)).toUInt32 >>> (Int32.toUInt32 4 &&& Int32.toUInt32 31)).toInt32)) &&& 252645135).toUInt32 >>> (Int32.toUInt32 8 &&& Int32.toUInt32 31)).toInt32))]) C dJ6_bitCount_0f7a4_40 rfl (by decide) rfl ?_
  refine ow_iload_n C dJ6_bitCount_0f7a4_41 rfl rfl ?_
  refine ow_iload_n C dJ6_bitCount_0f7a4_42 rfl rfl ?_
  refine ow_bipush (v := 16) C dJ6_bitCount_0f7a4_43 rfl ?_
  refine ow_iushr C dJ6_bitCount_0f7a4_45 ?_
  refine ow_iadd C dJ6_bitCount_0f7a4_46 ?_
  refine ow_istore_n (L' := [.int (((((((x0 - (((x0.toUInt32 >>> (Int32.toUInt32 1 &&& Int32.toUInt32 31)).toInt32) &&& 1431655765)) &&& 858993459) + ((((x0 - (((x0.toUInt32 >>> (Int32.toUInt32 1 &&& Int32.toUInt32 31)).toInt32) &&& 1431655765)).toUInt32 >>> (Int32.toUInt32 2 &&& Int32.toUInt32 31)).toInt32) &&& 858993459)) + (((((x0 - (((x0.toUInt32 >>> (Int32.toUInt32 1 &&& Int32.toUInt32 31)).toInt32) &&& 1431655765)) &&& 858993459) + ((((x0 - (((x0.toUInt32 >>> (Int32.toUInt32 1 &&& Int32.toUInt32 31)).toInt32) &&& 1431655765)).toUInt32 >>> (Int32.toUInt32 2 &&& Int32.toUInt32 31)).toInt32) &&& 858993459)).toUInt32 >>> (Int32.toUInt32 4 &&& Int32.toUInt32 31)).toInt32)) &&& 252645135) + (((((((x0 - (((x0.toUInt32 >>> (Int32.toUInt32 1 &&& Int32.toUInt32 31)).toInt32) &&& 1431655765)) &&& 858993459) + ((((x0 - (((x0.toUInt32 >>> (Int32.toUInt32 1 &&& Int32.toUInt32 31)).toInt32) &&& 1431655765)).toUInt32 >>> (Int32.toUInt32 2 &&& Int32.toUInt32 31)).toInt32) &&& 858993459)) + (((((x0 - (((x0.toUInt32 >>> (Int32.toUInt32 1 &&& Int32.toUInt32 31)).toInt32) &&& 1431655765)) &&& 858993459) + ((((x0 - (((x0.toUInt32 >>> (Int32.toUInt32 1 &&& Int32.toUInt32 31)).toInt32) &&& 1431655765)).toUInt32 >>> (Int32.toUInt32 2 &&& Int32.toUInt32 31)).toInt32) &&& 858993459)).toUInt32 >>> (Int32.toUInt32 4 &&& Int32.toUInt32 31)).toInt32)) &&& 252645135).toUInt32 >>> (Int32.toUInt32 8 &&& Int32.toUInt32 31)).toInt32)) + ((((((((x0 - (((x0.toUInt32 >>> (Int32.toUInt32 1 &&& Int32.toUInt32 31)).toInt32) &&& 1431655765)) &&& 858993459) + ((((x0 - (((x0.toUInt32 >>> (Int32.toUInt32 1 &&& Int32.toUInt32 31)).toInt32) &&& 1431655765)).toUInt32 >>> (Int32.toUInt32 2 &&& Int32.toUInt32 31)).toInt32) &&& 858993459)) + (((((x0 - (((x0.toUInt32 >>> (Int32.toUInt32 1 &&& Int32.toUInt32 31)).toInt32) &&& 1431655765)) &&& 858993459) + ((((x0 - (((x0.toUInt32 >>> (Int32.toUInt32 1 &&& Int32.toUInt32 31)).toInt32) &&& 1431655765)).toUInt32 >>> (Int32.toUInt32 2 &&& Int32.toUInt32 31)).toInt32) &&& 858993459)).toUInt32 >>> (Int32.toUInt32 4 &&& Int32.toUInt32 31)).toInt32)) &&& 252645135) + (((((((x0 - (((x0.toUInt32 >>> (Int32.toUInt32 1 &&& Int32.toUInt32 31)).toInt32) &&& 1431655765)) &&& 858993459) + ((((x0 - (((x0.toUInt32 >>> (Int32.toUInt32 1 &&& Int32.toUInt32 31)).toInt32) &&& 1431655765)).toUInt32 >>> (Int32.toUInt32 2 &&& Int32.toUInt32 31)).toInt32) &&& 858993459)) + (((((x0 - (((x0.toUInt32 >>> (Int32.toUInt32 1 &&& Int32.toUInt32 31)).toInt32) &&& 1431655765)) &&& 858993459) + ((((x0 - (((x0.toUInt32 >>> (Int32.toUInt32 1 &&& Int32.toUInt32 31)).toInt32) &&& 1431655765)).toUInt32 >>> (Int32.toUInt32 2 &&& Int32.toUInt32 31)).toInt32) &&& 858993459)).toUInt32 >>> (Int32.toUInt32 4 &&& Int32.toUInt32 31)).toInt32)) &&& 252645135).toUInt32 >>> (Int32.toUInt32 8 &&& Int32.toUInt32 31)).toInt32)).toUInt32 >>> (Int32.toUInt32 16 &&& Int32.toUInt32 31)).toInt32))]) C dJ6_bitCount_0f7a4_47 rfl (by decide) rfl ?_
  refine ow_iload_n C dJ6_bitCount_0f7a4_48 rfl rfl ?_
  refine ow_bipush (v := 63) C dJ6_bitCount_0f7a4_49 rfl ?_
  refine ow_iand C dJ6_bitCount_0f7a4_51 ?_
  exact ow_iret Z dJ6_bitCount_0f7a4_52 trivial hh
def tr_J6_bitCount_0f7a4 : aw_T := fun as h Q => ∃ (x0 : Int32), as = [.int x0] ∧ (sm_J6_bitCount_0f7a4_0  Q x0 h)
theorem tq_J6_bitCount_0f7a4 {x0 : Int32} {h : aw_H} {Q : aw_R} : tr_J6_bitCount_0f7a4 [.int x0] h Q ↔ (sm_J6_bitCount_0f7a4_0  Q x0 h) := by
  constructor
  · rintro ⟨_, as0, hh⟩
    cases as0
    exact hh
  · intro hh
    exact ⟨_, rfl, hh⟩
theorem ct_J6_bitCount_0f7a4 (E : aw_F) : CT E yJ6_bitCount_0f7a4 cJ6_bitCount_0f7a4 1 (some .int) 0 tr_J6_bitCount_0f7a4 := by
  refine ct_of (by decide) ?_
  intro X Q as h hE C Z hG
  subst hE
  obtain ⟨x0, rfl, hh⟩ := hG
  refine ⟨[.int x0], rfl, Nat.le_of_ble_eq_true rfl, ?_⟩
  exact bl_J6_bitCount_0f7a4_0 C Z x0 h hh
theorem cs_J6_bitCount_0f7a4 (E : aw_F) : CS E yJ6_bitCount_0f7a4 cJ6_bitCount_0f7a4 1 (some .int) 0 1 tr_J6_bitCount_0f7a4 := ⟨ct_J6_bitCount_0f7a4 E, by decide, kw_8, kw_7, kw_6, by decide +kernel⟩
theorem dJ7_fill_d0a16_0 : decode cJ7_fill_d0a16 0 = .ok (.iconst 0, 1) := by decide +kernel
theorem dJ7_fill_d0a16_1 : decode cJ7_fill_d0a16 1 = .ok (.istore_n 3, 1) := by decide +kernel
theorem dJ7_fill_d0a16_2 : decode cJ7_fill_d0a16 2 = .ok (.aload_n 0, 1) := by decide +kernel
theorem dJ7_fill_d0a16_3 : decode cJ7_fill_d0a16 3 = .ok (.arraylength, 1) := by decide +kernel
theorem dJ7_fill_d0a16_4 : decode cJ7_fill_d0a16 4 = .ok (.istore 4, 2) := by decide +kernel
theorem dJ7_fill_d0a16_6 : decode cJ7_fill_d0a16 6 = .ok (.iload_n 3, 1) := by decide +kernel
theorem dJ7_fill_d0a16_7 : decode cJ7_fill_d0a16 7 = .ok (.iload 4, 2) := by decide +kernel
theorem dJ7_fill_d0a16_9 : decode cJ7_fill_d0a16 9 = .ok (.if_icmp .ge 13, 3) := by decide +kernel
theorem dJ7_fill_d0a16_12 : decode cJ7_fill_d0a16 12 = .ok (.aload_n 0, 1) := by decide +kernel
theorem dJ7_fill_d0a16_13 : decode cJ7_fill_d0a16 13 = .ok (.iload_n 3, 1) := by decide +kernel
theorem dJ7_fill_d0a16_14 : decode cJ7_fill_d0a16 14 = .ok (.lload_n 1, 1) := by decide +kernel
theorem dJ7_fill_d0a16_15 : decode cJ7_fill_d0a16 15 = .ok (.lastore, 1) := by decide +kernel
theorem dJ7_fill_d0a16_16 : decode cJ7_fill_d0a16 16 = .ok (.iinc 3 1, 3) := by decide +kernel
theorem dJ7_fill_d0a16_19 : decode cJ7_fill_d0a16 19 = .ok (.goto (-13), 3) := by decide +kernel
theorem dJ7_fill_d0a16_22 : decode cJ7_fill_d0a16 22 = .ok (.return_, 1) := by decide +kernel
def sm_J7_fill_d0a16_6 (K6 : Nat → Int64 → Int32 → Int32 → aw_H → Prop) (Q : aw_R) (p0 : Nat) (w1 : Int64) (x3 : Int32) (x4 : Int32) (h : aw_H) : Prop :=
  if x4 ≤ x3 then (Q none h) else (ss_L h p0 x3 w1 fun h1 => K6 p0 w1 (x3 + 1) x4 h1)
set_option maxRecDepth 100000 in
set_option maxHeartbeats 4000000 in
theorem bl_J7_fill_d0a16_6 {X : aw_X} {Q : aw_R} (C : aw_C X cJ7_fill_d0a16 RJ7 5 0) (Z : aw_Z X cJ7_fill_d0a16 none Q) (p0 : Nat) (w1 : Int64) (x3 : Int32) (x4 : Int32) (h : aw_H) (hh : sm_J7_fill_d0a16_6 (fun (p0 : Nat) (w1 : Int64) (x3 : Int32) (x4 : Int32) (h : aw_H) => Sat X 6 [.ref p0, .long w1, Value.null, .int x3, .int x4] [] h) Q p0 w1 x3 x4 h) : Sat X 6 [.ref p0, .long w1, Value.null, .int x3, .int x4] [] h := by
  unfold sm_J7_fill_d0a16_6 at hh
  refine ow_iload_n C dJ7_fill_d0a16_6 rfl rfl ?_
  refine ow_iload C dJ7_fill_d0a16_7 rfl ?_
  refine ow_icmp_ge (tgt := 22) C dJ7_fill_d0a16_9 (by decide) hh (fun hh => ?_) (fun hh => ?_)
  · skip
    exact ow_vret Z dJ7_fill_d0a16_22 trivial hh
  · skip
    refine ow_aload_n C dJ7_fill_d0a16_12 rfl rfl ?_
    refine ow_iload_n C dJ7_fill_d0a16_13 rfl rfl ?_
    refine ow_lload_n C dJ7_fill_d0a16_14 rfl rfl ?_
    refine ow_lastore C dJ7_fill_d0a16_15 hh (fun h1 hh => ?_)
    refine ow_iinc (v := x3 + 1) (L' := [.ref p0, .long w1, Value.null, .int (x3 + 1), .int x4]) C dJ7_fill_d0a16_16 rfl rfl (by decide) rfl ?_
    refine ow_goto (tgt := 6) C dJ7_fill_d0a16_19 (by decide) ?_
    exact Sat.mask hh (mk_y (mk_y (mk_n (mk_y (mk_y mk_0)))))
def sm_J7_fill_d0a16_0 (K6 : Nat → Int64 → Int32 → Int32 → aw_H → Prop) (Q : aw_R) (p0 : Nat) (w1 : Int64) (h : aw_H) : Prop :=
  sa_N h p0 fun v1 => K6 p0 w1 0 v1 h
set_option maxRecDepth 100000 in
set_option maxHeartbeats 4000000 in
theorem bl_J7_fill_d0a16_0 {X : aw_X} {Q : aw_R} (C : aw_C X cJ7_fill_d0a16 RJ7 5 0) (Z : aw_Z X cJ7_fill_d0a16 none Q) (p0 : Nat) (w1 : Int64) (h : aw_H) (hh : sm_J7_fill_d0a16_0 (fun (p0 : Nat) (w1 : Int64) (x3 : Int32) (x4 : Int32) (h : aw_H) => Sat X 6 [.ref p0, .long w1, Value.null, .int x3, .int x4] [] h) Q p0 w1 h) : Sat X 0 [.ref p0, .long w1, Value.null, Value.null, Value.null] [] h := by
  unfold sm_J7_fill_d0a16_0 at hh
  refine ow_iconst (v := 0) C dJ7_fill_d0a16_0 rfl ?_
  refine ow_istore_n (L' := [.ref p0, .long w1, Value.null, .int 0, Value.null]) C dJ7_fill_d0a16_1 rfl (by decide) rfl ?_
  refine ow_aload_n C dJ7_fill_d0a16_2 rfl rfl ?_
  refine ow_alen C dJ7_fill_d0a16_3 hh (fun v1 hh => ?_)
  refine ow_istore (L' := [.ref p0, .long w1, Value.null, .int 0, .int v1]) C dJ7_fill_d0a16_4 (by decide) rfl ?_
  exact Sat.mask hh (mk_y (mk_y (mk_n (mk_y (mk_y mk_0)))))
def tr_J7_fill_d0a16 : aw_T := fun as h Q => ∃ (p0 : Nat) (w1 : Int64), as = [.ref p0, .long w1] ∧ (∀ (K6 : Nat → Int64 → Int32 → Int32 → aw_H → Prop), (∀ (p0 : Nat) (w1 : Int64) (x3 : Int32) (x4 : Int32) (h : aw_H), sm_J7_fill_d0a16_6 K6 Q p0 w1 x3 x4 h → K6 p0 w1 x3 x4 h) → sm_J7_fill_d0a16_0 K6 Q p0 w1 h)
theorem tq_J7_fill_d0a16 {p0 : Nat} {w1 : Int64} {h : aw_H} {Q : aw_R} : tr_J7_fill_d0a16 [.ref p0, .long w1] h Q ↔ (∀ (K6 : Nat → Int64 → Int32 → Int32 → aw_H → Prop), (∀ (p0 : Nat) (w1 : Int64) (x3 : Int32) (x4 : Int32) (h : aw_H), sm_J7_fill_d0a16_6 K6 Q p0 w1 x3 x4 h → K6 p0 w1 x3 x4 h) → sm_J7_fill_d0a16_0 K6 Q p0 w1 h) := by
  constructor
  · rintro ⟨_, _, as0, hh⟩
    cases as0
    exact hh
  · intro hh
    exact ⟨_, _, rfl, hh⟩
theorem ct_J7_fill_d0a16 (E : aw_F) : CT E yJ7_fill_d0a16 cJ7_fill_d0a16 5 none 0 tr_J7_fill_d0a16 := by
  refine ct_of (by decide) ?_
  intro X Q as h hE C Z hG
  subst hE
  obtain ⟨p0, w1, rfl, hh⟩ := hG
  refine ⟨[.ref p0, .long w1, Value.null, Value.null, Value.null], rfl, Nat.le_of_ble_eq_true rfl, ?_⟩
  exact bl_J7_fill_d0a16_0 C Z p0 w1 h (hh (fun (p0 : Nat) (w1 : Int64) (x3 : Int32) (x4 : Int32) (h : aw_H) => Sat X 6 [.ref p0, .long w1, Value.null, .int x3, .int x4] [] h) (fun p0 w1 x3 x4 h hh => bl_J7_fill_d0a16_6 C Z p0 w1 x3 x4 h hh))
theorem cs_J7_fill_d0a16 (E : aw_F) : CS E yJ7_fill_d0a16 cJ7_fill_d0a16 5 none 0 2 tr_J7_fill_d0a16 := ⟨ct_J7_fill_d0a16 E, by decide, kw_10, kw_1, kw_9, by decide +kernel⟩
