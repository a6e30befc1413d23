/-! CONSTRUCTORS -/
theorem cn_int {D : va_G} {aC : Nat → ClassId} {cA : ClassId} {s : State} (h : va_K D vwCl (aw_t aC ++ [(cA, .int)]) s) : cA = aC 0 := Option.some.inj (((h.2 5 _ rfl).2 : s.vm.findClass _ = some cA).symm.trans ((h.2 0 _ rfl).2 : s.vm.findClass _ = some (aC 0)))
theorem cn_long {D : va_G} {aC : Nat → ClassId} {cA : ClassId} {s : State} (h : va_K D vwCl (aw_t aC ++ [(cA, .long)]) s) : cA = aC 1 := Option.some.inj (((h.2 5 _ rfl).2 : s.vm.findClass _ = some cA).symm.trans ((h.2 1 _ rfl).2 : s.vm.findClass _ = some (aC 1)))
theorem cn_char {D : va_G} {aC : Nat → ClassId} {cA : ClassId} {s : State} (h : va_K D vwCl (aw_t aC ++ [(cA, .char)]) s) : cA = aC 2 := Option.some.inj (((h.2 5 _ rfl).2 : s.vm.findClass _ = some cA).symm.trans ((h.2 2 _ rfl).2 : s.vm.findClass _ = some (aC 2)))
theorem cn_q3 {D : va_G} {aC : Nat → ClassId} {cA : ClassId} {s : State} (h : va_K D vwCl (aw_t aC ++ [(cA, .object RX0)]) s) : cA = aC 3 := by
  obtain ⟨-, -, -, -, -, h1⟩ := (h.2 5 _ rfl).2
  obtain ⟨-, -, -, -, -, h2⟩ := (h.2 3 _ rfl).2
  exact Option.some.inj (h1.symm.trans h2)
theorem cn_q4 {D : va_G} {aC : Nat → ClassId} {cA : ClassId} {s : State} (h : va_K D vwCl (aw_t aC ++ [(cA, .object RX4)]) s) : cA = aC 4 := by
  obtain ⟨-, -, -, -, -, h1⟩ := (h.2 5 _ rfl).2
  obtain ⟨-, -, -, -, -, h2⟩ := (h.2 4 _ rfl).2
  exact Option.some.inj (h1.symm.trans h2)
/-- the words that aren't kept by themselves: private constructors of nest mates, arrays of objects -/
def cn_N (U : State) : Prop := va_Nw (.methodLinkNest RX6 9 yX1_init "MirrorWires") U ∧ va_Nw (.methodLinkNest RX1 11 yX0_init "MirrorWires") U ∧ va_Nw (.methodLinkNest RX3 17 yX0_init "MirrorWires") U ∧ va_Nw (.methodLinkNest RX6 32 yX0_init "MirrorWires") U ∧ va_Nw (.methodLinkNest RX6 41 yX5_init "MirrorWires") U ∧ va_Nw (.methodLinkNest RX6 55 yX4_init "MirrorWires") U ∧ va_AO RX0 U ∧ va_AO RX4 U
theorem cn_N.warm {s U : State} (h : cn_N s) (hW : s.WarmedH U.vm) : cn_N U := ⟨h.1.warmM hW, h.2.1.warmM hW, h.2.2.1.warmM hW, h.2.2.2.1.warmM hW, h.2.2.2.2.1.warmM hW, h.2.2.2.2.2.1.warmM hW, h.2.2.2.2.2.2.1.moved hW.alike, h.2.2.2.2.2.2.2.moved hW.alike⟩
theorem cn_N.call {U : State} {g : JFrame} {mk : MethodId} {a : Array Value} (h : cn_N U) : cn_N (U.calling g mk a) := ⟨va_Nw.same rfl rfl h.1, va_Nw.same rfl rfl h.2.1, va_Nw.same rfl rfl h.2.2.1, va_Nw.same rfl rfl h.2.2.2.1, va_Nw.same rfl rfl h.2.2.2.2.1, va_Nw.same rfl rfl h.2.2.2.2.2.1, h.2.2.2.2.2.2.1.moved (Vm.Alike.refl U.vm), h.2.2.2.2.2.2.2.moved (Vm.Alike.refl U.vm)⟩
theorem cn_blind {av : List Value} {sz : Nat} {D : va_G} {aC : Nat → ClassId} {ws : va_W} : FrameBlind (va_Pc av (fun U => U.heap.size = sz ∧ va_P D vwCl ws U.heap ∧ va_K D vwCl (aw_t aC) U ∧ va_D (fun _ => True) ws ∧ cn_N U)) := fun a U g mk q => by
  obtain ⟨q0, q1, qP, qK, qD, qN⟩ := q
  exact ⟨q0, q1, qP, va_K.moved (u := U) (U := U.calling g mk a) (Vm.Alike.refl U.vm) qK, qD, qN.call⟩
theorem kw_928 : Cond.methodLink RX0 3 objectInit ∈ lw_g := lw_gin 91 (by decide +kernel) (by decide +kernel)
theorem kw_929 : Cond.instanceMethod objectInit ∈ lw_g := lw_gin 78 (by decide +kernel) (by decide +kernel)
set_option maxRecDepth 100000 in
theorem kw_930 : Cond.code objectInit ⟨#[0xb1]⟩ 1 none ∈ lw_g := lw_gin 79 rfl rfl
theorem kw_931 : Cond.arrayClass .int ∈ lw_g := lw_gin 123 (by decide +kernel) (by decide +kernel)
theorem kw_932 : Cond.methodLink RX5 3 objectInit ∈ lw_g := lw_gin 181 (by decide +kernel) (by decide +kernel)
theorem kw_933 : Cond.arrayClass .char ∈ lw_g := lw_gin 194 (by decide +kernel) (by decide +kernel)
theorem kw_934 : Cond.methodLink RX4 3 objectInit ∈ lw_g := lw_gin 201 (by decide +kernel) (by decide +kernel)
theorem kw_935 : Cond.arrayClass .long ∈ lw_g := lw_gin 220 (by decide +kernel) (by decide +kernel)
theorem kw_936 : Cond.methodLink RX1 3 objectInit ∈ lw_g := lw_gin 85 (by decide +kernel) (by decide +kernel)
theorem kw_937 : Cond.classLink RX1 9 RX0 ∈ lw_g := lw_gin 86 (by decide +kernel) (by decide +kernel)
theorem kw_938 : Cond.instantiable RX0 6 ∈ lw_g := lw_gin 87 (by decide +kernel) (by decide +kernel)
set_option maxRecDepth 100000 in
theorem kw_939 : Cond.code yX0_init cX0_init 1 none ∈ lw_g := lw_gin 90 rfl rfl
theorem kw_940 : Cond.instanceMethod yX0_init ∈ lw_g := lw_gin 89 (by decide +kernel) (by decide +kernel)
theorem kw_941 : Cond.methodLink RX3 3 objectInit ∈ lw_g := lw_gin 159 (by decide +kernel) (by decide +kernel)
theorem kw_942 : Cond.classLink RX3 9 RX0 ∈ lw_g := lw_gin 160 (by decide +kernel) (by decide +kernel)
theorem kw_943 : Cond.methodLink RX6 1 objectInit ∈ lw_g := lw_gin 77 (by decide +kernel) (by decide +kernel)
theorem kw_944 : Cond.classLink RX6 7 RX1 ∈ lw_g := lw_gin 80 (by decide +kernel) (by decide +kernel)
theorem kw_945 : Cond.instantiable RX1 8 ∈ lw_g := lw_gin 81 (by decide +kernel) (by decide +kernel)
set_option maxRecDepth 100000 in
theorem kw_946 : Cond.code yX1_init cX1_init 1 none ∈ lw_g := lw_gin 84 rfl rfl
theorem kw_947 : Cond.instanceMethod yX1_init ∈ lw_g := lw_gin 83 (by decide +kernel) (by decide +kernel)
theorem kw_948 : Cond.fieldLink RX6 16 "MirrorWires$Foretold" "board" "LMirrorWires$Board;" ∈ lw_g := lw_gin 125 (by decide +kernel) (by decide +kernel)
theorem kw_949 : Cond.classLink RX6 23 RX3 ∈ lw_g := lw_gin 154 (by decide +kernel) (by decide +kernel)
theorem kw_950 : Cond.instantiable RX3 3 ∈ lw_g := lw_gin 155 (by decide +kernel) (by decide +kernel)
set_option maxRecDepth 100000 in
theorem kw_951 : Cond.code yX3_init cX3_init 2 none ∈ lw_g := lw_gin 158 rfl rfl
theorem kw_952 : Cond.instanceMethod yX3_init ∈ lw_g := lw_gin 157 (by decide +kernel) (by decide +kernel)
theorem kw_953 : Cond.methodLink RX6 25 yX3_init ∈ lw_g := lw_gin 156 (by decide +kernel) (by decide +kernel)
theorem kw_954 : Cond.classLink RX6 30 RX0 ∈ lw_g := lw_gin 174 (by decide +kernel) (by decide +kernel)
theorem kw_955 : Cond.classLink RX6 39 RX5 ∈ lw_g := lw_gin 176 (by decide +kernel) (by decide +kernel)
theorem kw_956 : Cond.instantiable RX5 3 ∈ lw_g := lw_gin 177 (by decide +kernel) (by decide +kernel)
set_option maxRecDepth 100000 in
theorem kw_957 : Cond.code yX5_init cX5_init 1 none ∈ lw_g := lw_gin 180 rfl rfl
theorem kw_958 : Cond.instanceMethod yX5_init ∈ lw_g := lw_gin 179 (by decide +kernel) (by decide +kernel)
theorem kw_959 : Cond.classLink RX6 49 RX4 ∈ lw_g := lw_gin 195 (by decide +kernel) (by decide +kernel)
theorem kw_960 : Cond.instantiable RX4 4 ∈ lw_g := lw_gin 197 (by decide +kernel) (by decide +kernel)
set_option maxRecDepth 100000 in
theorem kw_961 : Cond.code yX4_init cX4_init 1 none ∈ lw_g := lw_gin 200 rfl rfl
theorem kw_962 : Cond.instanceMethod yX4_init ∈ lw_g := lw_gin 199 (by decide +kernel) (by decide +kernel)
theorem kw_963 : Cond.methodLink RX7 1 objectInit ∈ lw_g := lw_gin 751 (by decide +kernel) (by decide +kernel)
theorem dX0_init_0 : decode cX0_init 0 = .ok (.aload_n 0, 1) := by decide +kernel
theorem dX0_init_1 : decode cX0_init 1 = .ok (.invokespecial 3, 3) := by decide +kernel
theorem dX0_init_4 : decode cX0_init 4 = .ok (.aload_n 0, 1) := by decide +kernel
theorem dX0_init_5 : decode cX0_init 5 = .ok (.iconst 3, 1) := by decide +kernel
theorem dX0_init_6 : decode cX0_init 6 = .ok (.putfield 9, 3) := by decide +kernel
theorem dX0_init_9 : decode cX0_init 9 = .ok (.aload_n 0, 1) := by decide +kernel
theorem dX0_init_10 : decode cX0_init 10 = .ok (.bipush 16, 2) := by decide +kernel
theorem dX0_init_12 : decode cX0_init 12 = .ok (.newarray .int, 2) := by decide +kernel
theorem dX0_init_14 : decode cX0_init 14 = .ok (.putfield 15, 3) := by decide +kernel
theorem dX0_init_17 : decode cX0_init 17 = .ok (.aload_n 0, 1) := by decide +kernel
theorem dX0_init_18 : decode cX0_init 18 = .ok (.iconst 1, 1) := by decide +kernel
theorem dX0_init_19 : decode cX0_init 19 = .ok (.putfield 19, 3) := by decide +kernel
theorem dX0_init_22 : decode cX0_init 22 = .ok (.return_, 1) := by decide +kernel
/-- what the world is behind the constructor -/
def at_X0_init (dC : Nat → ClassId) (dI : Nat → Nat → Nat) (aC : Nat → ClassId) (A : Nat → Prop) (h0 : Nat) (t : State) : Prop := ∃ q0 : Nat, va_P (dC, dI) vwCl [(h0, .inr (0, [.int 3, .int 0, .ref q0, .int 0, .int 0, .int 1])), (q0, .inl (aC 0, 16, .inl fun _ => 0))] t.heap ∧ va_K (dC, dI) vwCl (aw_t aC) t ∧ va_D A [(h0, .inr (0, [.int 3, .int 0, .ref q0, .int 0, .int 0, .int 1])), (q0, .inl (aC 0, 16, .inl fun _ => 0))]
set_option maxHeartbeats 8000000 in
set_option maxRecDepth 100000 in
theorem cc_X0_init (l : Launch) (dC : Nat → ClassId) (dI : Nat → Nat → Nat) (aC : Nat → ClassId) (h0 : Nat) (sz : Nat) : Met l yX0_init (.code yX0_init cX0_init 1 none :: lw_g) ({ frames := 1, cells := 1, slots := 16, locals := 40 }) (va_Pc [.ref h0] (fun U => U.heap.size = sz ∧ va_P (dC, dI) vwCl [(h0, .inr (0, [.int 0, .int 0, .null, .int 0, .int 0, .int 0]))] U.heap ∧ va_K (dC, dI) vwCl (aw_t aC) U ∧ va_D (fun _ => True) [(h0, .inr (0, [.int 0, .int 0, .null, .int 0, .int 0, .int 0]))] ∧ cn_N U)) (va_Qv (fun _ : Unit => True) (fun _ => at_X0_init dC dI aC (va_A [(h0, .inr (0, [.int 0, .int 0, .null, .int 0, .int 0, .int 0]))] sz) h0) (va_A [(h0, .inr (0, [.int 0, .int 0, .null, .int 0, .int 0, .int 0]))] sz)) 1 16 (va_A [(h0, .inr (0, [.int 0, .int 0, .null, .int 0, .int 0, .int 0]))] sz) := by
  refine Met.ofW (cc := cX0_init) (maxL := 1) (ret := none) (by decide) rfl ?_
  intro p e s m args below meth c s₁ B hml hv
  obtain ⟨rfl, hsz, hP, hK, hD0, hN⟩ := hv
  have hx := B.exec
  have hb := B.bytes
  have hr := B.returns
  have hts0 := atoms_spec (ws := .code yX0_init cX0_init 1 none :: lw_g) B.pre
  have hts : ∀ w ∈ lw_g, w.before _ s = true := fun w hw => hts0 w (List.mem_cons_of_mem _ hw)
  have hown : s.vm.findClass RX0 = some m.cls := findClass_of_methodNamed B.named
  have hlocks := B.notSynchronized
  have hin : meth.name = "<init>" := (name_of_methodNamed B.named B.method).1
  subst hsz
  have hD := hD0.self (sz := s.heap.size)
  generalize hAe : va_A [(h0, .inr (0, [.int 0, .int 0, .null, .int 0, .int 0, .int 0]))] s.heap.size = A at hD ⊢
  have hA : ∀ q : Nat, s.heap.size ≤ q → A q := fun q h => by rw [← hAe]; exact Or.inr h
  have hS : va_S A s.heap s.heap [] := va_S.rf
  have hl := lv_entry ([.ref h0]) (n := 1) (Nat.le_of_ble_eq_true rfl)
  rw [lg_entry_eq]
  generalize (lg_sl ([.ref h0]) ++ List.replicate (1 - (lg_sl ([.ref h0])).length) Slot.unset).toArray = ls at hl ⊢
  have hl : lv_has ls 1 [(0, .ref h0)] := hl
  refine lv_aload_n hx hb dX0_init_0 rfl (lv_at hl 0 rfl) ?_
  refine W.objInit hx hb hown (hts _ kw_928) (hts _ kw_929) (hts _ kw_930) rfl (by rw [hml]; exact hl.1) rfl dX0_init_1 (Nat.le_of_ble_eq_true rfl) (Nat.le_of_ble_eq_true rfl) ?_
  refine W.eq (g2 := F0 m 4 ls []) rfl ?_
  refine lv_aload_n hx hb dX0_init_4 rfl (lv_at hl 0 rfl) ?_
  refine lv_iconst (v := 3) hx hb dX0_init_5 (by decide) ?_
  refine va_put (D := (dC, dI)) (ci := 0) (v := .int 3) (ty := .int) (C := RX0) (T := TX0) (N := 6) hx hb hts igX0 tyX0 tyX0_ok nmX0 hown hK hP hD hS 0 rfl rfl 0 (by decide) (hts _ kw_47) (fun _ h9 => h9) rfl (by decide +kernel) rfl rfl (Nat.le_of_ble_eq_true rfl) dX0_init_6 (fun H locs hP hD hS => ?_)
  have hP : va_P (dC, dI) vwCl [(h0, .inr (0, [.int 3, .int 0, .null, .int 0, .int 0, .int 0]))] H := hP
  have hD : va_D A [(h0, .inr (0, [.int 3, .int 0, .null, .int 0, .int 0, .int 0]))] := hD
  refine lv_aload_n hx hb dX0_init_9 rfl (lv_at hl 0 rfl) ?_
  refine lv_bipush (v := 16) hx hb dX0_init_10 (by decide) ?_
  refine va_newa (atype := .int) (ty := .int) (N' := 16) (a0 := (16, .inl fun _ => 0)) hx hb (hts _ kw_931) rfl hK hP hD hS hA (fun _ => rfl) (by decide) (by decide) (Nat.le_of_ble_eq_true rfl) (Nat.le_of_ble_eq_true rfl) (Nat.le_of_ble_eq_true rfl) dX0_init_12 (fun q0 cA H hK1 hP hD hS => ?_)
  obtain rfl := cn_int hK1
  have hP : va_P (dC, dI) vwCl [(h0, .inr (0, [.int 3, .int 0, .null, .int 0, .int 0, .int 0])), (q0, .inl (aC 0, 16, .inl fun _ => 0))] H := hP
  have hD : va_D A [(h0, .inr (0, [.int 3, .int 0, .null, .int 0, .int 0, .int 0])), (q0, .inl (aC 0, 16, .inl fun _ => 0))] := hD
  refine W.widen (k := 1) (n := 16) (Nat.le_of_ble_eq_true rfl) (Nat.le_of_ble_eq_true rfl) ?_
  refine va_putF (D := (dC, dI)) (ci := 0) (v := .ref q0) (ty := (.array .int)) (C := RX0) (T := TX0) (N := 6) hx hb hts igX0 tyX0 tyX0_ok nmX0 hown hK hP hD hS 0 rfl rfl 2 (by decide) (hts _ kw_58) (fun _ h9 => h9) rfl hin rfl (by decide +kernel) rfl rfl (Nat.le_of_ble_eq_true rfl) dX0_init_14 (fun H locs hP hD hS => ?_)
  have hP : va_P (dC, dI) vwCl [(h0, .inr (0, [.int 3, .int 0, .ref q0, .int 0, .int 0, .int 0])), (q0, .inl (aC 0, 16, .inl fun _ => 0))] H := hP
  have hD : va_D A [(h0, .inr (0, [.int 3, .int 0, .ref q0, .int 0, .int 0, .int 0])), (q0, .inl (aC 0, 16, .inl fun _ => 0))] := hD
  refine lv_aload_n hx hb dX0_init_17 rfl (lv_at hl 0 rfl) ?_
  refine lv_iconst (v := 1) hx hb dX0_init_18 (by decide) ?_
  refine va_put (D := (dC, dI)) (ci := 0) (v := .int 1) (ty := .int) (C := RX0) (T := TX0) (N := 6) hx hb hts igX0 tyX0 tyX0_ok nmX0 hown hK hP hD hS 0 rfl rfl 5 (by decide) (hts _ kw_63) (fun _ h9 => h9) rfl (by decide +kernel) rfl rfl (Nat.le_of_ble_eq_true rfl) dX0_init_19 (fun H locs hP hD hS => ?_)
  have hP : va_P (dC, dI) vwCl [(h0, .inr (0, [.int 3, .int 0, .ref q0, .int 0, .int 0, .int 1])), (q0, .inl (aC 0, 16, .inl fun _ => 0))] H := hP
  have hD : va_D A [(h0, .inr (0, [.int 3, .int 0, .ref q0, .int 0, .int 0, .int 1])), (q0, .inl (aC 0, 16, .inl fun _ => 0))] := hD
  exact W.vret hx hb hr (fun t ht hW => ⟨⟨(), rfl, trivial, q0, by rw [ht]; exact hP, va_K.moved hW.alike hK, hD⟩, hS.F ht⟩) hS.2.2 dX0_init_22
theorem dX5_init_0 : decode cX5_init 0 = .ok (.aload_n 0, 1) := by decide +kernel
theorem dX5_init_1 : decode cX5_init 1 = .ok (.invokespecial 3, 3) := by decide +kernel
theorem dX5_init_4 : decode cX5_init 4 = .ok (.aload_n 0, 1) := by decide +kernel
theorem dX5_init_5 : decode cX5_init 5 = .ok (.bipush 110, 2) := by decide +kernel
theorem dX5_init_7 : decode cX5_init 7 = .ok (.newarray .char, 2) := by decide +kernel
theorem dX5_init_9 : decode cX5_init 9 = .ok (.putfield 9, 3) := by decide +kernel
theorem dX5_init_12 : decode cX5_init 12 = .ok (.return_, 1) := by decide +kernel
/-- what the world is behind the constructor -/
def at_X5_init (dC : Nat → ClassId) (dI : Nat → Nat → Nat) (aC : Nat → ClassId) (A : Nat → Prop) (h0 : Nat) (t : State) : Prop := ∃ q0 : Nat, va_P (dC, dI) vwCl [(h0, .inr (4, [.ref q0, .int 0, .int 0])), (q0, .inl (aC 2, 110, .inl fun _ => 0))] t.heap ∧ va_K (dC, dI) vwCl (aw_t aC) t ∧ va_D A [(h0, .inr (4, [.ref q0, .int 0, .int 0])), (q0, .inl (aC 2, 110, .inl fun _ => 0))]
set_option maxHeartbeats 8000000 in
set_option maxRecDepth 100000 in
theorem cc_X5_init (l : Launch) (dC : Nat → ClassId) (dI : Nat → Nat → Nat) (aC : Nat → ClassId) (h0 : Nat) (sz : Nat) : Met l yX5_init (.code yX5_init cX5_init 1 none :: lw_g) ({ frames := 1, cells := 1, slots := 110, locals := 40 }) (va_Pc [.ref h0] (fun U => U.heap.size = sz ∧ va_P (dC, dI) vwCl [(h0, .inr (4, [.null, .int 0, .int 0]))] U.heap ∧ va_K (dC, dI) vwCl (aw_t aC) U ∧ va_D (fun _ => True) [(h0, .inr (4, [.null, .int 0, .int 0]))] ∧ cn_N U)) (va_Qv (fun _ : Unit => True) (fun _ => at_X5_init dC dI aC (va_A [(h0, .inr (4, [.null, .int 0, .int 0]))] sz) h0) (va_A [(h0, .inr (4, [.null, .int 0, .int 0]))] sz)) 1 110 (va_A [(h0, .inr (4, [.null, .int 0, .int 0]))] sz) := by
  refine Met.ofW (cc := cX5_init) (maxL := 1) (ret := none) (by decide) rfl ?_
  intro p e s m args below meth c s₁ B hml hv
  obtain ⟨rfl, hsz, hP, hK, hD0, hN⟩ := hv
  have hx := B.exec
  have hb := B.bytes
  have hr := B.returns
  have hts0 := atoms_spec (ws := .code yX5_init cX5_init 1 none :: lw_g) B.pre
  have hts : ∀ w ∈ lw_g, w.before _ s = true := fun w hw => hts0 w (List.mem_cons_of_mem _ hw)
  have hown : s.vm.findClass RX5 = some m.cls := findClass_of_methodNamed B.named
  have hlocks := B.notSynchronized
  have hin : meth.name = "<init>" := (name_of_methodNamed B.named B.method).1
  subst hsz
  have hD := hD0.self (sz := s.heap.size)
  generalize hAe : va_A [(h0, .inr (4, [.null, .int 0, .int 0]))] s.heap.size = A at hD ⊢
  have hA : ∀ q : Nat, s.heap.size ≤ q → A q := fun q h => by rw [← hAe]; exact Or.inr h
  have hS : va_S A s.heap s.heap [] := va_S.rf
  have hl := lv_entry ([.ref h0]) (n := 1) (Nat.le_of_ble_eq_true rfl)
  rw [lg_entry_eq]
  generalize (lg_sl ([.ref h0]) ++ List.replicate (1 - (lg_sl ([.ref h0])).length) Slot.unset).toArray = ls at hl ⊢
  have hl : lv_has ls 1 [(0, .ref h0)] := hl
  refine lv_aload_n hx hb dX5_init_0 rfl (lv_at hl 0 rfl) ?_
  refine W.objInit hx hb hown (hts _ kw_932) (hts _ kw_929) (hts _ kw_930) rfl (by rw [hml]; exact hl.1) rfl dX5_init_1 (Nat.le_of_ble_eq_true rfl) (Nat.le_of_ble_eq_true rfl) ?_
  refine W.eq (g2 := F0 m 4 ls []) rfl ?_
  refine lv_aload_n hx hb dX5_init_4 rfl (lv_at hl 0 rfl) ?_
  refine lv_bipush (v := 110) hx hb dX5_init_5 (by decide) ?_
  refine va_newa (atype := .char) (ty := .char) (N' := 110) (a0 := (110, .inl fun _ => 0)) hx hb (hts _ kw_933) rfl hK hP hD hS hA (fun _ => rfl) (by decide) (by decide) (Nat.le_of_ble_eq_true rfl) (Nat.le_of_ble_eq_true rfl) (Nat.le_of_ble_eq_true rfl) dX5_init_7 (fun q0 cA H hK1 hP hD hS => ?_)
  obtain rfl := cn_char hK1
  have hP : va_P (dC, dI) vwCl [(h0, .inr (4, [.null, .int 0, .int 0])), (q0, .inl (aC 2, 110, .inl fun _ => 0))] H := hP
  have hD : va_D A [(h0, .inr (4, [.null, .int 0, .int 0])), (q0, .inl (aC 2, 110, .inl fun _ => 0))] := hD
  refine W.widen (k := 1) (n := 110) (Nat.le_of_ble_eq_true rfl) (Nat.le_of_ble_eq_true rfl) ?_
  refine va_putF (D := (dC, dI)) (ci := 4) (v := .ref q0) (ty := (.array .char)) (C := RX5) (T := TX5) (N := 3) hx hb hts igX5 tyX5 tyX5_ok nmX5 hown hK hP hD hS 0 rfl rfl 0 (by decide) (hts _ kw_147) (fun _ h9 => h9) rfl hin rfl (by decide +kernel) rfl rfl (Nat.le_of_ble_eq_true rfl) dX5_init_9 (fun H locs hP hD hS => ?_)
  have hP : va_P (dC, dI) vwCl [(h0, .inr (4, [.ref q0, .int 0, .int 0])), (q0, .inl (aC 2, 110, .inl fun _ => 0))] H := hP
  have hD : va_D A [(h0, .inr (4, [.ref q0, .int 0, .int 0])), (q0, .inl (aC 2, 110, .inl fun _ => 0))] := hD
  exact W.vret hx hb hr (fun t ht hW => ⟨⟨(), rfl, trivial, q0, by rw [ht]; exact hP, va_K.moved hW.alike hK, hD⟩, hS.F ht⟩) hS.2.2 dX5_init_12
theorem dX4_init_0 : decode cX4_init 0 = .ok (.aload_n 0, 1) := by decide +kernel
theorem dX4_init_1 : decode cX4_init 1 = .ok (.invokespecial 3, 3) := by decide +kernel
theorem dX4_init_4 : decode cX4_init 4 = .ok (.aload_n 0, 1) := by decide +kernel
theorem dX4_init_5 : decode cX4_init 5 = .ok (.bipush 24, 2) := by decide +kernel
theorem dX4_init_7 : decode cX4_init 7 = .ok (.newarray .long, 2) := by decide +kernel
theorem dX4_init_9 : decode cX4_init 9 = .ok (.putfield 9, 3) := by decide +kernel
theorem dX4_init_12 : decode cX4_init 12 = .ok (.return_, 1) := by decide +kernel
/-- what the world is behind the constructor -/
def at_X4_init (dC : Nat → ClassId) (dI : Nat → Nat → Nat) (aC : Nat → ClassId) (A : Nat → Prop) (h0 : Nat) (t : State) : Prop := ∃ q0 : Nat, va_P (dC, dI) vwCl [(h0, .inr (3, [.int 0, .int 0, .int 0, .ref q0])), (q0, .inl (aC 1, 24, .inr (.inl fun _ => 0)))] t.heap ∧ va_K (dC, dI) vwCl (aw_t aC) t ∧ va_D A [(h0, .inr (3, [.int 0, .int 0, .int 0, .ref q0])), (q0, .inl (aC 1, 24, .inr (.inl fun _ => 0)))]
set_option maxHeartbeats 8000000 in
set_option maxRecDepth 100000 in
theorem cc_X4_init (l : Launch) (dC : Nat → ClassId) (dI : Nat → Nat → Nat) (aC : Nat → ClassId) (h0 : Nat) (sz : Nat) : Met l yX4_init (.code yX4_init cX4_init 1 none :: lw_g) ({ frames := 1, cells := 1, slots := 24, locals := 40 }) (va_Pc [.ref h0] (fun U => U.heap.size = sz ∧ va_P (dC, dI) vwCl [(h0, .inr (3, [.int 0, .int 0, .int 0, .null]))] U.heap ∧ va_K (dC, dI) vwCl (aw_t aC) U ∧ va_D (fun _ => True) [(h0, .inr (3, [.int 0, .int 0, .int 0, .null]))] ∧ cn_N U)) (va_Qv (fun _ : Unit => True) (fun _ => at_X4_init dC dI aC (va_A [(h0, .inr (3, [.int 0, .int 0, .int 0, .null]))] sz) h0) (va_A [(h0, .inr (3, [.int 0, .int 0, .int 0, .null]))] sz)) 1 24 (va_A [(h0, .inr (3, [.int 0, .int 0, .int 0, .null]))] sz) := by
  refine Met.ofW (cc := cX4_init) (maxL := 1) (ret := none) (by decide) rfl ?_
  intro p e s m args below meth c s₁ B hml hv
  obtain ⟨rfl, hsz, hP, hK, hD0, hN⟩ := hv
  have hx := B.exec
  have hb := B.bytes
  have hr := B.returns
  have hts0 := atoms_spec (ws := .code yX4_init cX4_init 1 none :: lw_g) B.pre
  have hts : ∀ w ∈ lw_g, w.before _ s = true := fun w hw => hts0 w (List.mem_cons_of_mem _ hw)
  have hown : s.vm.findClass RX4 = some m.cls := findClass_of_methodNamed B.named
  have hlocks := B.notSynchronized
  have hin : meth.name = "<init>" := (name_of_methodNamed B.named B.method).1
  subst hsz
  have hD := hD0.self (sz := s.heap.size)
  generalize hAe : va_A [(h0, .inr (3, [.int 0, .int 0, .int 0, .null]))] s.heap.size = A at hD ⊢
  have hA : ∀ q : Nat, s.heap.size ≤ q → A q := fun q h => by rw [← hAe]; exact Or.inr h
  have hS : va_S A s.heap s.heap [] := va_S.rf
  have hl := lv_entry ([.ref h0]) (n := 1) (Nat.le_of_ble_eq_true rfl)
  rw [lg_entry_eq]
  generalize (lg_sl ([.ref h0]) ++ List.replicate (1 - (lg_sl ([.ref h0])).length) Slot.unset).toArray = ls at hl ⊢
  have hl : lv_has ls 1 [(0, .ref h0)] := hl
  refine lv_aload_n hx hb dX4_init_0 rfl (lv_at hl 0 rfl) ?_
  refine W.objInit hx hb hown (hts _ kw_934) (hts _ kw_929) (hts _ kw_930) rfl (by rw [hml]; exact hl.1) rfl dX4_init_1 (Nat.le_of_ble_eq_true rfl) (Nat.le_of_ble_eq_true rfl) ?_
  refine W.eq (g2 := F0 m 4 ls []) rfl ?_
  refine lv_aload_n hx hb dX4_init_4 rfl (lv_at hl 0 rfl) ?_
  refine lv_bipush (v := 24) hx hb dX4_init_5 (by decide) ?_
  refine va_newa (atype := .long) (ty := .long) (N' := 24) (a0 := (24, .inr (.inl fun _ => 0))) hx hb (hts _ kw_935) rfl hK hP hD hS hA (fun _ => rfl) (by decide) (by decide) (Nat.le_of_ble_eq_true rfl) (Nat.le_of_ble_eq_true rfl) (Nat.le_of_ble_eq_true rfl) dX4_init_7 (fun q0 cA H hK1 hP hD hS => ?_)
  obtain rfl := cn_long hK1
  have hP : va_P (dC, dI) vwCl [(h0, .inr (3, [.int 0, .int 0, .int 0, .null])), (q0, .inl (aC 1, 24, .inr (.inl fun _ => 0)))] H := hP
  have hD : va_D A [(h0, .inr (3, [.int 0, .int 0, .int 0, .null])), (q0, .inl (aC 1, 24, .inr (.inl fun _ => 0)))] := hD
  refine W.widen (k := 1) (n := 24) (Nat.le_of_ble_eq_true rfl) (Nat.le_of_ble_eq_true rfl) ?_
  refine va_putF (D := (dC, dI)) (ci := 3) (v := .ref q0) (ty := (.array .long)) (C := RX4) (T := TX4) (N := 4) hx hb hts igX4 tyX4 tyX4_ok nmX4 hown hK hP hD hS 0 rfl rfl 3 (by decide) (hts _ kw_105) (fun _ h9 => h9) rfl hin rfl (by decide +kernel) rfl rfl (Nat.le_of_ble_eq_true rfl) dX4_init_9 (fun H locs hP hD hS => ?_)
  have hP : va_P (dC, dI) vwCl [(h0, .inr (3, [.int 0, .int 0, .int 0, .ref q0])), (q0, .inl (aC 1, 24, .inr (.inl fun _ => 0)))] H := hP
  have hD : va_D A [(h0, .inr (3, [.int 0, .int 0, .int 0, .ref q0])), (q0, .inl (aC 1, 24, .inr (.inl fun _ => 0)))] := hD
  exact W.vret hx hb hr (fun t ht hW => ⟨⟨(), rfl, trivial, q0, by rw [ht]; exact hP, va_K.moved hW.alike hK, hD⟩, hS.F ht⟩) hS.2.2 dX4_init_12
theorem dX1_init_0 : decode cX1_init 0 = .ok (.aload_n 0, 1) := by decide +kernel
theorem dX1_init_1 : decode cX1_init 1 = .ok (.invokespecial 3, 3) := by decide +kernel
theorem dX1_init_4 : decode cX1_init 4 = .ok (.aload_n 0, 1) := by decide +kernel
theorem dX1_init_5 : decode cX1_init 5 = .ok (.new 9, 3) := by decide +kernel
theorem dX1_init_8 : decode cX1_init 8 = .ok (.dup, 1) := by decide +kernel
theorem dX1_init_9 : decode cX1_init 9 = .ok (.invokespecial 11, 3) := by decide +kernel
theorem dX1_init_12 : decode cX1_init 12 = .ok (.putfield 12, 3) := by decide +kernel
theorem dX1_init_15 : decode cX1_init 15 = .ok (.aload_n 0, 1) := by decide +kernel
theorem dX1_init_16 : decode cX1_init 16 = .ok (.bipush 64, 2) := by decide +kernel
theorem dX1_init_18 : decode cX1_init 18 = .ok (.newarray .int, 2) := by decide +kernel
theorem dX1_init_20 : decode cX1_init 20 = .ok (.putfield 18, 3) := by decide +kernel
theorem dX1_init_23 : decode cX1_init 23 = .ok (.aload_n 0, 1) := by decide +kernel
theorem dX1_init_24 : decode cX1_init 24 = .ok (.bipush 64, 2) := by decide +kernel
theorem dX1_init_26 : decode cX1_init 26 = .ok (.newarray .int, 2) := by decide +kernel
theorem dX1_init_28 : decode cX1_init 28 = .ok (.putfield 22, 3) := by decide +kernel
theorem dX1_init_31 : decode cX1_init 31 = .ok (.aload_n 0, 1) := by decide +kernel
theorem dX1_init_32 : decode cX1_init 32 = .ok (.bipush 64, 2) := by decide +kernel
theorem dX1_init_34 : decode cX1_init 34 = .ok (.newarray .int, 2) := by decide +kernel
theorem dX1_init_36 : decode cX1_init 36 = .ok (.putfield 25, 3) := by decide +kernel
theorem dX1_init_39 : decode cX1_init 39 = .ok (.return_, 1) := by decide +kernel
/-- what the world is behind the constructor -/
def at_X1_init (dC : Nat → ClassId) (dI : Nat → Nat → Nat) (aC : Nat → ClassId) (A : Nat → Prop) (h0 : Nat) (t : State) : Prop := ∃ q0 q1 q2 q3 q4 : Nat, va_P (dC, dI) vwCl [(h0, .inr (1, [.ref q0, .ref q2, .ref q3, .ref q4, .int 0, .int 0, .int 0, .int 0])), (q0, .inr (0, [.int 3, .int 0, .ref q1, .int 0, .int 0, .int 1])), (q1, .inl (aC 0, 16, .inl fun _ => 0)), (q2, .inl (aC 0, 64, .inl fun _ => 0)), (q3, .inl (aC 0, 64, .inl fun _ => 0)), (q4, .inl (aC 0, 64, .inl fun _ => 0))] t.heap ∧ va_K (dC, dI) vwCl (aw_t aC) t ∧ va_D A [(h0, .inr (1, [.ref q0, .ref q2, .ref q3, .ref q4, .int 0, .int 0, .int 0, .int 0])), (q0, .inr (0, [.int 3, .int 0, .ref q1, .int 0, .int 0, .int 1])), (q1, .inl (aC 0, 16, .inl fun _ => 0)), (q2, .inl (aC 0, 64, .inl fun _ => 0)), (q3, .inl (aC 0, 64, .inl fun _ => 0)), (q4, .inl (aC 0, 64, .inl fun _ => 0))]
set_option maxHeartbeats 8000000 in
set_option maxRecDepth 100000 in
theorem cc_X1_init (l : Launch) (dC : Nat → ClassId) (dI : Nat → Nat → Nat) (aC : Nat → ClassId) (h0 : Nat) (sz : Nat) : Met l yX1_init (.code yX1_init cX1_init 1 none :: lw_g) ({ frames := 2, cells := 5, slots := 214, locals := 80 }) (va_Pc [.ref h0] (fun U => U.heap.size = sz ∧ va_P (dC, dI) vwCl [(h0, .inr (1, [.null, .null, .null, .null, .int 0, .int 0, .int 0, .int 0]))] U.heap ∧ va_K (dC, dI) vwCl (aw_t aC) U ∧ va_D (fun _ => True) [(h0, .inr (1, [.null, .null, .null, .null, .int 0, .int 0, .int 0, .int 0]))] ∧ cn_N U)) (va_Qv (fun _ : Unit => True) (fun _ => at_X1_init dC dI aC (va_A [(h0, .inr (1, [.null, .null, .null, .null, .int 0, .int 0, .int 0, .int 0]))] sz) h0) (va_A [(h0, .inr (1, [.null, .null, .null, .null, .int 0, .int 0, .int 0, .int 0]))] sz)) 5 214 (va_A [(h0, .inr (1, [.null, .null, .null, .null, .int 0, .int 0, .int 0, .int 0]))] sz) := by
  refine Met.ofW (cc := cX1_init) (maxL := 1) (ret := none) (by decide) rfl ?_
  intro p e s m args below meth c s₁ B hml hv
  obtain ⟨rfl, hsz, hP, hK, hD0, hN⟩ := hv
  have hx := B.exec
  have hb := B.bytes
  have hr := B.returns
  have hts0 := atoms_spec (ws := .code yX1_init cX1_init 1 none :: lw_g) B.pre
  have hts : ∀ w ∈ lw_g, w.before _ s = true := fun w hw => hts0 w (List.mem_cons_of_mem _ hw)
  have hown : s.vm.findClass RX1 = some m.cls := findClass_of_methodNamed B.named
  have hlocks := B.notSynchronized
  have hin : meth.name = "<init>" := (name_of_methodNamed B.named B.method).1
  subst hsz
  have hD := hD0.self (sz := s.heap.size)
  generalize hAe : va_A [(h0, .inr (1, [.null, .null, .null, .null, .int 0, .int 0, .int 0, .int 0]))] s.heap.size = A at hD ⊢
  have hA : ∀ q : Nat, s.heap.size ≤ q → A q := fun q h => by rw [← hAe]; exact Or.inr h
  have hS : va_S A s.heap s.heap [] := va_S.rf
  have hl := lv_entry ([.ref h0]) (n := 1) (Nat.le_of_ble_eq_true rfl)
  rw [lg_entry_eq]
  generalize (lg_sl ([.ref h0]) ++ List.replicate (1 - (lg_sl ([.ref h0])).length) Slot.unset).toArray = ls at hl ⊢
  have hl : lv_has ls 1 [(0, .ref h0)] := hl
  refine lv_aload_n hx hb dX1_init_0 rfl (lv_at hl 0 rfl) ?_
  refine W.objInit hx hb hown (hts _ kw_936) (hts _ kw_929) (hts _ kw_930) rfl (by rw [hml]; exact hl.1) rfl dX1_init_1 (Nat.le_of_ble_eq_true rfl) (Nat.le_of_ble_eq_true rfl) ?_
  refine W.eq (g2 := F0 m 4 ls []) rfl ?_
  refine lv_aload_n hx hb dX1_init_4 rfl (lv_at hl 0 rfl) ?_
  refine va_new (ci := 0) (fs := [.int 0, .int 0, .null, .int 0, .int 0, .int 0]) (C := RX0) (T := TX0) (N := 6) hx hb hts igX0 tyX0 tyX0_ok hown (hts _ kw_937) (hts _ kw_938) (hts _ kw_49) hK hP hD hS hA rfl (by decide) (Nat.le_of_ble_eq_true rfl) (Nat.le_of_ble_eq_true rfl) dX1_init_5 (fun q0 H hP hD hS => ?_)
  have hP : va_P (dC, dI) vwCl [(h0, .inr (1, [.null, .null, .null, .null, .int 0, .int 0, .int 0, .int 0])), (q0, .inr (0, [.int 0, .int 0, .null, .int 0, .int 0, .int 0]))] H := hP
  have hD : va_D A [(h0, .inr (1, [.null, .null, .null, .null, .int 0, .int 0, .int 0, .int 0])), (q0, .inr (0, [.int 0, .int 0, .null, .int 0, .int 0, .int 0]))] := hD
  refine W.widen (k := 1) (n := 6) (Nat.le_of_ble_eq_true rfl) (Nat.le_of_ble_eq_true rfl) ?_
  refine lv_dup hx hb dX1_init_8 rfl ?_
  have hPc := hP.sub (ws' := [(q0, .inr (0, [.int 0, .int 0, .null, .int 0, .int 0, .int 0]))]) [1] rfl
  have hDc := hD.sub (ws' := [(q0, .inr (0, [.int 0, .int 0, .null, .int 0, .int 0, .int 0]))]) [1] (by decide) rfl
  have hFc := va_free (wc := [(q0, .inr (0, [.int 0, .int 0, .null, .int 0, .int 0, .int 0]))]) hD hS hA [1] rfl
  refine va_callv (va_runIN (host := "MirrorWires") (As := []) (rest := [.ref q0, .ref h0]) ⟨hx, hb, hml, hown, hts⟩ (cc_X0_init l dC dI aC q0 H.size) ⟨va_cnB 0 hts (aw_goodc kw_939) rfl rfl rfl hN.2.1 (hts _ kw_49) (by decide +kernel) ⟨Nat.le_of_ble_eq_true rfl, Nat.le_of_ble_eq_true rfl⟩, rfl, hts _ kw_940⟩ ⟨cn_blind, fun U hU hW => ⟨rfl, by rw [hU], by rw [hU]; exact hPc, va_K.moved hW.alike hK, hDc.weaken (fun _ _ _ _ => trivial), hN.warm hW⟩⟩ rfl rfl hl.1 rfl (lv_room (Nat.le_of_ble_eq_true rfl)) dX1_init_9 ⟨Nat.le_of_ble_eq_true rfl, Nat.le_of_ble_eq_true rfl⟩) hS (fun q _ h => hFc q h) hFc (fun u t H1 locs ht hvm hw hB hz1 hk1 hS => ?_)
  obtain ⟨q1, hP1, hK1, hD1⟩ := hB
  rw [ht] at hP1
  obtain ⟨hP, hD⟩ := va_join (wr := [(h0, .inr (1, [.null, .null, .null, .null, .int 0, .int 0, .int 0, .int 0]))]) (w1 := [(q0, .inr (0, [.int 3, .int 0, .ref q1, .int 0, .int 0, .int 1])), (q1, .inl (aC 0, 16, .inl fun _ => 0))]) hP hD [1] [0] rfl rfl (by decide) (by decide) hk1 hFc hP1 hD1
  generalize H1 = H at hP hS ⊢
  have hP : va_P (dC, dI) vwCl [(h0, .inr (1, [.null, .null, .null, .null, .int 0, .int 0, .int 0, .int 0])), (q0, .inr (0, [.int 3, .int 0, .ref q1, .int 0, .int 0, .int 1])), (q1, .inl (aC 0, 16, .inl fun _ => 0))] H := hP
  have hD : va_D A [(h0, .inr (1, [.null, .null, .null, .null, .int 0, .int 0, .int 0, .int 0])), (q0, .inr (0, [.int 3, .int 0, .ref q1, .int 0, .int 0, .int 1])), (q1, .inl (aC 0, 16, .inl fun _ => 0))] := hD
  refine W.widen (k := 2) (n := 22) (Nat.le_of_ble_eq_true rfl) (Nat.le_of_ble_eq_true rfl) ?_
  refine va_putF (D := (dC, dI)) (ci := 1) (v := .ref q0) (ty := (.object "MirrorWires$Board")) (C := RX1) (T := TX1) (N := 8) hx hb hts igX1 tyX1 tyX1_ok nmX1 hown hK hP hD hS 0 rfl rfl 0 (by decide) (hts _ kw_199) (fun _ h9 => h9) rfl hin rfl (by decide +kernel) rfl rfl (Nat.le_of_ble_eq_true rfl) dX1_init_12 (fun H locs hP hD hS => ?_)
  have hP : va_P (dC, dI) vwCl [(h0, .inr (1, [.ref q0, .null, .null, .null, .int 0, .int 0, .int 0, .int 0])), (q0, .inr (0, [.int 3, .int 0, .ref q1, .int 0, .int 0, .int 1])), (q1, .inl (aC 0, 16, .inl fun _ => 0))] H := hP
  have hD : va_D A [(h0, .inr (1, [.ref q0, .null, .null, .null, .int 0, .int 0, .int 0, .int 0])), (q0, .inr (0, [.int 3, .int 0, .ref q1, .int 0, .int 0, .int 1])), (q1, .inl (aC 0, 16, .inl fun _ => 0))] := hD
  refine lv_aload_n hx hb dX1_init_15 rfl (lv_at hl 0 rfl) ?_
  refine lv_bipush (v := 64) hx hb dX1_init_16 (by decide) ?_
  refine va_newa (atype := .int) (ty := .int) (N' := 64) (a0 := (64, .inl fun _ => 0)) hx hb (hts _ kw_931) rfl hK hP hD hS hA (fun _ => rfl) (by decide) (by decide) (Nat.le_of_ble_eq_true rfl) (Nat.le_of_ble_eq_true rfl) (Nat.le_of_ble_eq_true rfl) dX1_init_18 (fun q2 cA H hK1 hP hD hS => ?_)
  obtain rfl := cn_int hK1
  have hP : va_P (dC, dI) vwCl [(h0, .inr (1, [.ref q0, .null, .null, .null, .int 0, .int 0, .int 0, .int 0])), (q0, .inr (0, [.int 3, .int 0, .ref q1, .int 0, .int 0, .int 1])), (q1, .inl (aC 0, 16, .inl fun _ => 0)), (q2, .inl (aC 0, 64, .inl fun _ => 0))] H := hP
  have hD : va_D A [(h0, .inr (1, [.ref q0, .null, .null, .null, .int 0, .int 0, .int 0, .int 0])), (q0, .inr (0, [.int 3, .int 0, .ref q1, .int 0, .int 0, .int 1])), (q1, .inl (aC 0, 16, .inl fun _ => 0)), (q2, .inl (aC 0, 64, .inl fun _ => 0))] := hD
  refine W.widen (k := 3) (n := 86) (Nat.le_of_ble_eq_true rfl) (Nat.le_of_ble_eq_true rfl) ?_
  refine va_putF (D := (dC, dI)) (ci := 1) (v := .ref q2) (ty := (.array .int)) (C := RX1) (T := TX1) (N := 8) hx hb hts igX1 tyX1 tyX1_ok nmX1 hown hK hP hD hS 0 rfl rfl 1 (by decide) (hts _ kw_198) (fun _ h9 => h9) rfl hin rfl (by decide +kernel) rfl rfl (Nat.le_of_ble_eq_true rfl) dX1_init_20 (fun H locs hP hD hS => ?_)
  have hP : va_P (dC, dI) vwCl [(h0, .inr (1, [.ref q0, .ref q2, .null, .null, .int 0, .int 0, .int 0, .int 0])), (q0, .inr (0, [.int 3, .int 0, .ref q1, .int 0, .int 0, .int 1])), (q1, .inl (aC 0, 16, .inl fun _ => 0)), (q2, .inl (aC 0, 64, .inl fun _ => 0))] H := hP
  have hD : va_D A [(h0, .inr (1, [.ref q0, .ref q2, .null, .null, .int 0, .int 0, .int 0, .int 0])), (q0, .inr (0, [.int 3, .int 0, .ref q1, .int 0, .int 0, .int 1])), (q1, .inl (aC 0, 16, .inl fun _ => 0)), (q2, .inl (aC 0, 64, .inl fun _ => 0))] := hD
  refine lv_aload_n hx hb dX1_init_23 rfl (lv_at hl 0 rfl) ?_
  refine lv_bipush (v := 64) hx hb dX1_init_24 (by decide) ?_
  refine va_newa (atype := .int) (ty := .int) (N' := 64) (a0 := (64, .inl fun _ => 0)) hx hb (hts _ kw_931) rfl hK hP hD hS hA (fun _ => rfl) (by decide) (by decide) (Nat.le_of_ble_eq_true rfl) (Nat.le_of_ble_eq_true rfl) (Nat.le_of_ble_eq_true rfl) dX1_init_26 (fun q3 cA H hK1 hP hD hS => ?_)
  obtain rfl := cn_int hK1
  have hP : va_P (dC, dI) vwCl [(h0, .inr (1, [.ref q0, .ref q2, .null, .null, .int 0, .int 0, .int 0, .int 0])), (q0, .inr (0, [.int 3, .int 0, .ref q1, .int 0, .int 0, .int 1])), (q1, .inl (aC 0, 16, .inl fun _ => 0)), (q2, .inl (aC 0, 64, .inl fun _ => 0)), (q3, .inl (aC 0, 64, .inl fun _ => 0))] H := hP
  have hD : va_D A [(h0, .inr (1, [.ref q0, .ref q2, .null, .null, .int 0, .int 0, .int 0, .int 0])), (q0, .inr (0, [.int 3, .int 0, .ref q1, .int 0, .int 0, .int 1])), (q1, .inl (aC 0, 16, .inl fun _ => 0)), (q2, .inl (aC 0, 64, .inl fun _ => 0)), (q3, .inl (aC 0, 64, .inl fun _ => 0))] := hD
  refine W.widen (k := 4) (n := 150) (Nat.le_of_ble_eq_true rfl) (Nat.le_of_ble_eq_true rfl) ?_
  refine va_putF (D := (dC, dI)) (ci := 1) (v := .ref q3) (ty := (.array .int)) (C := RX1) (T := TX1) (N := 8) hx hb hts igX1 tyX1 tyX1_ok nmX1 hown hK hP hD hS 0 rfl rfl 2 (by decide) (hts _ kw_241) (fun _ h9 => h9) rfl hin rfl (by decide +kernel) rfl rfl (Nat.le_of_ble_eq_true rfl) dX1_init_28 (fun H locs hP hD hS => ?_)
  have hP : va_P (dC, dI) vwCl [(h0, .inr (1, [.ref q0, .ref q2, .ref q3, .null, .int 0, .int 0, .int 0, .int 0])), (q0, .inr (0, [.int 3, .int 0, .ref q1, .int 0, .int 0, .int 1])), (q1, .inl (aC 0, 16, .inl fun _ => 0)), (q2, .inl (aC 0, 64, .inl fun _ => 0)), (q3, .inl (aC 0, 64, .inl fun _ => 0))] H := hP
  have hD : va_D A [(h0, .inr (1, [.ref q0, .ref q2, .ref q3, .null, .int 0, .int 0, .int 0, .int 0])), (q0, .inr (0, [.int 3, .int 0, .ref q1, .int 0, .int 0, .int 1])), (q1, .inl (aC 0, 16, .inl fun _ => 0)), (q2, .inl (aC 0, 64, .inl fun _ => 0)), (q3, .inl (aC 0, 64, .inl fun _ => 0))] := hD
  refine lv_aload_n hx hb dX1_init_31 rfl (lv_at hl 0 rfl) ?_
  refine lv_bipush (v := 64) hx hb dX1_init_32 (by decide) ?_
  refine va_newa (atype := .int) (ty := .int) (N' := 64) (a0 := (64, .inl fun _ => 0)) hx hb (hts _ kw_931) rfl hK hP hD hS hA (fun _ => rfl) (by decide) (by decide) (Nat.le_of_ble_eq_true rfl) (Nat.le_of_ble_eq_true rfl) (Nat.le_of_ble_eq_true rfl) dX1_init_34 (fun q4 cA H hK1 hP hD hS => ?_)
  obtain rfl := cn_int hK1
  have hP : va_P (dC, dI) vwCl [(h0, .inr (1, [.ref q0, .ref q2, .ref q3, .null, .int 0, .int 0, .int 0, .int 0])), (q0, .inr (0, [.int 3, .int 0, .ref q1, .int 0, .int 0, .int 1])), (q1, .inl (aC 0, 16, .inl fun _ => 0)), (q2, .inl (aC 0, 64, .inl fun _ => 0)), (q3, .inl (aC 0, 64, .inl fun _ => 0)), (q4, .inl (aC 0, 64, .inl fun _ => 0))] H := hP
  have hD : va_D A [(h0, .inr (1, [.ref q0, .ref q2, .ref q3, .null, .int 0, .int 0, .int 0, .int 0])), (q0, .inr (0, [.int 3, .int 0, .ref q1, .int 0, .int 0, .int 1])), (q1, .inl (aC 0, 16, .inl fun _ => 0)), (q2, .inl (aC 0, 64, .inl fun _ => 0)), (q3, .inl (aC 0, 64, .inl fun _ => 0)), (q4, .inl (aC 0, 64, .inl fun _ => 0))] := hD
  refine W.widen (k := 5) (n := 214) (Nat.le_of_ble_eq_true rfl) (Nat.le_of_ble_eq_true rfl) ?_
  refine va_putF (D := (dC, dI)) (ci := 1) (v := .ref q4) (ty := (.array .int)) (C := RX1) (T := TX1) (N := 8) hx hb hts igX1 tyX1 tyX1_ok nmX1 hown hK hP hD hS 0 rfl rfl 3 (by decide) (hts _ kw_257) (fun _ h9 => h9) rfl hin rfl (by decide +kernel) rfl rfl (Nat.le_of_ble_eq_true rfl) dX1_init_36 (fun H locs hP hD hS => ?_)
  have hP : va_P (dC, dI) vwCl [(h0, .inr (1, [.ref q0, .ref q2, .ref q3, .ref q4, .int 0, .int 0, .int 0, .int 0])), (q0, .inr (0, [.int 3, .int 0, .ref q1, .int 0, .int 0, .int 1])), (q1, .inl (aC 0, 16, .inl fun _ => 0)), (q2, .inl (aC 0, 64, .inl fun _ => 0)), (q3, .inl (aC 0, 64, .inl fun _ => 0)), (q4, .inl (aC 0, 64, .inl fun _ => 0))] H := hP
  have hD : va_D A [(h0, .inr (1, [.ref q0, .ref q2, .ref q3, .ref q4, .int 0, .int 0, .int 0, .int 0])), (q0, .inr (0, [.int 3, .int 0, .ref q1, .int 0, .int 0, .int 1])), (q1, .inl (aC 0, 16, .inl fun _ => 0)), (q2, .inl (aC 0, 64, .inl fun _ => 0)), (q3, .inl (aC 0, 64, .inl fun _ => 0)), (q4, .inl (aC 0, 64, .inl fun _ => 0))] := hD
  exact W.vret hx hb hr (fun t ht hW => ⟨⟨(), rfl, trivial, q0, q1, q2, q3, q4, by rw [ht]; exact hP, va_K.moved hW.alike hK, hD⟩, hS.F ht⟩) hS.2.2 dX1_init_39
theorem dX3_init_0 : decode cX3_init 0 = .ok (.aload_n 0, 1) := by decide +kernel
theorem dX3_init_1 : decode cX3_init 1 = .ok (.invokespecial 3, 3) := by decide +kernel
theorem dX3_init_4 : decode cX3_init 4 = .ok (.aload_n 0, 1) := by decide +kernel
theorem dX3_init_5 : decode cX3_init 5 = .ok (.bipush 8, 2) := by decide +kernel
theorem dX3_init_7 : decode cX3_init 7 = .ok (.anewarray 9, 3) := by decide +kernel
theorem dX3_init_10 : decode cX3_init 10 = .ok (.putfield 11, 3) := by decide +kernel
theorem dX3_init_13 : decode cX3_init 13 = .ok (.iconst 0, 1) := by decide +kernel
theorem dX3_init_14 : decode cX3_init 14 = .ok (.istore_n 1, 1) := by decide +kernel
theorem dX3_init_15 : decode cX3_init 15 = .ok (.iload_n 1, 1) := by decide +kernel
theorem dX3_init_16 : decode cX3_init 16 = .ok (.bipush 8, 2) := by decide +kernel
theorem dX3_init_18 : decode cX3_init 18 = .ok (.if_icmp .ge 22, 3) := by decide +kernel
theorem dX3_init_21 : decode cX3_init 21 = .ok (.aload_n 0, 1) := by decide +kernel
theorem dX3_init_22 : decode cX3_init 22 = .ok (.getfield 11, 3) := by decide +kernel
theorem dX3_init_25 : decode cX3_init 25 = .ok (.iload_n 1, 1) := by decide +kernel
theorem dX3_init_26 : decode cX3_init 26 = .ok (.new 9, 3) := by decide +kernel
theorem dX3_init_29 : decode cX3_init 29 = .ok (.dup, 1) := by decide +kernel
theorem dX3_init_30 : decode cX3_init 30 = .ok (.invokespecial 17, 3) := by decide +kernel
theorem dX3_init_33 : decode cX3_init 33 = .ok (.aastore, 1) := by decide +kernel
theorem dX3_init_34 : decode cX3_init 34 = .ok (.iinc 1 1, 3) := by decide +kernel
theorem dX3_init_37 : decode cX3_init 37 = .ok (.goto (-22), 3) := by decide +kernel
theorem dX3_init_40 : decode cX3_init 40 = .ok (.return_, 1) := by decide +kernel
/-- what the world is behind the constructor -/
def at_X3_init (dC : Nat → ClassId) (dI : Nat → Nat → Nat) (aC : Nat → ClassId) (A : Nat → Prop) (h0 : Nat) (t : State) : Prop := ∃ q0 q1 q2 q3 q4 q5 q6 q7 q8 q9 q10 q11 q12 q13 q14 q15 q16 : Nat, va_P (dC, dI) vwCl [(h0, .inr (2, [.ref q0, .int 0, .int 0])), (q0, .inl (aC 3, 8, .inr (.inr (.inr (.inr (va_up (va_up (va_up (va_up (va_up (va_up (va_up (va_up (fun _ => none) 0 (some q1)) 1 (some q3)) 2 (some q5)) 3 (some q7)) 4 (some q9)) 5 (some q11)) 6 (some q13)) 7 (some q15))))))), (q1, .inr (0, [.int 3, .int 0, .ref q2, .int 0, .int 0, .int 1])), (q2, .inl (aC 0, 16, .inl fun _ => 0)), (q3, .inr (0, [.int 3, .int 0, .ref q4, .int 0, .int 0, .int 1])), (q4, .inl (aC 0, 16, .inl fun _ => 0)), (q5, .inr (0, [.int 3, .int 0, .ref q6, .int 0, .int 0, .int 1])), (q6, .inl (aC 0, 16, .inl fun _ => 0)), (q7, .inr (0, [.int 3, .int 0, .ref q8, .int 0, .int 0, .int 1])), (q8, .inl (aC 0, 16, .inl fun _ => 0)), (q9, .inr (0, [.int 3, .int 0, .ref q10, .int 0, .int 0, .int 1])), (q10, .inl (aC 0, 16, .inl fun _ => 0)), (q11, .inr (0, [.int 3, .int 0, .ref q12, .int 0, .int 0, .int 1])), (q12, .inl (aC 0, 16, .inl fun _ => 0)), (q13, .inr (0, [.int 3, .int 0, .ref q14, .int 0, .int 0, .int 1])), (q14, .inl (aC 0, 16, .inl fun _ => 0)), (q15, .inr (0, [.int 3, .int 0, .ref q16, .int 0, .int 0, .int 1])), (q16, .inl (aC 0, 16, .inl fun _ => 0))] t.heap ∧ va_K (dC, dI) vwCl (aw_t aC) t ∧ va_D A [(h0, .inr (2, [.ref q0, .int 0, .int 0])), (q0, .inl (aC 3, 8, .inr (.inr (.inr (.inr (va_up (va_up (va_up (va_up (va_up (va_up (va_up (va_up (fun _ => none) 0 (some q1)) 1 (some q3)) 2 (some q5)) 3 (some q7)) 4 (some q9)) 5 (some q11)) 6 (some q13)) 7 (some q15))))))), (q1, .inr (0, [.int 3, .int 0, .ref q2, .int 0, .int 0, .int 1])), (q2, .inl (aC 0, 16, .inl fun _ => 0)), (q3, .inr (0, [.int 3, .int 0, .ref q4, .int 0, .int 0, .int 1])), (q4, .inl (aC 0, 16, .inl fun _ => 0)), (q5, .inr (0, [.int 3, .int 0, .ref q6, .int 0, .int 0, .int 1])), (q6, .inl (aC 0, 16, .inl fun _ => 0)), (q7, .inr (0, [.int 3, .int 0, .ref q8, .int 0, .int 0, .int 1])), (q8, .inl (aC 0, 16, .inl fun _ => 0)), (q9, .inr (0, [.int 3, .int 0, .ref q10, .int 0, .int 0, .int 1])), (q10, .inl (aC 0, 16, .inl fun _ => 0)), (q11, .inr (0, [.int 3, .int 0, .ref q12, .int 0, .int 0, .int 1])), (q12, .inl (aC 0, 16, .inl fun _ => 0)), (q13, .inr (0, [.int 3, .int 0, .ref q14, .int 0, .int 0, .int 1])), (q14, .inl (aC 0, 16, .inl fun _ => 0)), (q15, .inr (0, [.int 3, .int 0, .ref q16, .int 0, .int 0, .int 1])), (q16, .inl (aC 0, 16, .inl fun _ => 0))]
set_option maxHeartbeats 8000000 in
set_option maxRecDepth 100000 in
theorem cc_X3_init (l : Launch) (dC : Nat → ClassId) (dI : Nat → Nat → Nat) (aC : Nat → ClassId) (h0 : Nat) (sz : Nat) : Met l yX3_init (.code yX3_init cX3_init 2 none :: lw_g) ({ frames := 2, cells := 17, slots := 184, locals := 80 }) (va_Pc [.ref h0] (fun U => U.heap.size = sz ∧ va_P (dC, dI) vwCl [(h0, .inr (2, [.null, .int 0, .int 0]))] U.heap ∧ va_K (dC, dI) vwCl (aw_t aC) U ∧ va_D (fun _ => True) [(h0, .inr (2, [.null, .int 0, .int 0]))] ∧ cn_N U)) (va_Qv (fun _ : Unit => True) (fun _ => at_X3_init dC dI aC (va_A [(h0, .inr (2, [.null, .int 0, .int 0]))] sz) h0) (va_A [(h0, .inr (2, [.null, .int 0, .int 0]))] sz)) 17 184 (va_A [(h0, .inr (2, [.null, .int 0, .int 0]))] sz) := by
  refine Met.ofW (cc := cX3_init) (maxL := 2) (ret := none) (by decide) rfl ?_
  intro p e s m args below meth c s₁ B hml hv
  obtain ⟨rfl, hsz, hP, hK, hD0, hN⟩ := hv
  have hx := B.exec
  have hb := B.bytes
  have hr := B.returns
  have hts0 := atoms_spec (ws := .code yX3_init cX3_init 2 none :: lw_g) B.pre
  have hts : ∀ w ∈ lw_g, w.before _ s = true := fun w hw => hts0 w (List.mem_cons_of_mem _ hw)
  have hown : s.vm.findClass RX3 = some m.cls := findClass_of_methodNamed B.named
  have hlocks := B.notSynchronized
  have hin : meth.name = "<init>" := (name_of_methodNamed B.named B.method).1
  subst hsz
  have hD := hD0.self (sz := s.heap.size)
  generalize hAe : va_A [(h0, .inr (2, [.null, .int 0, .int 0]))] s.heap.size = A at hD ⊢
  have hA : ∀ q : Nat, s.heap.size ≤ q → A q := fun q h => by rw [← hAe]; exact Or.inr h
  have hS : va_S A s.heap s.heap [] := va_S.rf
  have hl := lv_entry ([.ref h0]) (n := 2) (Nat.le_of_ble_eq_true rfl)
  rw [lg_entry_eq]
  generalize (lg_sl ([.ref h0]) ++ List.replicate (2 - (lg_sl ([.ref h0])).length) Slot.unset).toArray = ls at hl ⊢
  have hl : lv_has ls 2 [(0, .ref h0)] := hl
  refine lv_aload_n hx hb dX3_init_0 rfl (lv_at hl 0 rfl) ?_
  refine W.objInit hx hb hown (hts _ kw_941) (hts _ kw_929) (hts _ kw_930) rfl (by rw [hml]; exact hl.1) rfl dX3_init_1 (Nat.le_of_ble_eq_true rfl) (Nat.le_of_ble_eq_true rfl) ?_
  refine W.eq (g2 := F0 m 4 ls []) rfl ?_
  refine lv_aload_n hx hb dX3_init_4 rfl (lv_at hl 0 rfl) ?_
  refine lv_bipush (v := 8) hx hb dX3_init_5 (by decide) ?_
  refine va_newq (C := RX0) (N' := 8) hx hb hown (hts _ kw_942) hN.2.2.2.2.2.2.1 hK hP hD hS hA (by decide) (by decide) (Nat.le_of_ble_eq_true rfl) (Nat.le_of_ble_eq_true rfl) (Nat.le_of_ble_eq_true rfl) dX3_init_7 (fun q0 cA H hK1 hP hD hS => ?_)
  obtain rfl := cn_q3 hK1
  have hP : va_P (dC, dI) vwCl [(h0, .inr (2, [.null, .int 0, .int 0])), (q0, .inl (aC 3, 8, .inr (.inr (.inr (.inr (fun _ => none))))))] H := hP
  have hD : va_D A [(h0, .inr (2, [.null, .int 0, .int 0])), (q0, .inl (aC 3, 8, .inr (.inr (.inr (.inr (fun _ => none))))))] := hD
  refine W.widen (k := 1) (n := 8) (Nat.le_of_ble_eq_true rfl) (Nat.le_of_ble_eq_true rfl) ?_
  refine va_putF (D := (dC, dI)) (ci := 2) (v := .ref q0) (ty := (.array (.object "MirrorWires$Board"))) (C := RX3) (T := TX3) (N := 3) hx hb hts igX3 tyX3 tyX3_ok nmX3 hown hK hP hD hS 0 rfl rfl 0 (by decide) (hts _ kw_125) (fun _ h9 => h9) rfl hin rfl (by decide +kernel) rfl rfl (Nat.le_of_ble_eq_true rfl) dX3_init_10 (fun H locs hP hD hS => ?_)
  have hP : va_P (dC, dI) vwCl [(h0, .inr (2, [.ref q0, .int 0, .int 0])), (q0, .inl (aC 3, 8, .inr (.inr (.inr (.inr (fun _ => none))))))] H := hP
  have hD : va_D A [(h0, .inr (2, [.ref q0, .int 0, .int 0])), (q0, .inl (aC 3, 8, .inr (.inr (.inr (.inr (fun _ => none))))))] := hD
  refine lv_iconst (v := 0) hx hb dX3_init_13 (by decide) ?_
  refine lv_istore_n (lv' := [(1, .int 0), (0, .ref h0)]) hx hb dX3_init_14 rfl hl (by decide) rfl (fun ls hl => ?_)
  refine lv_iload_n hx hb dX3_init_15 rfl (lv_at hl 0 rfl) ?_
  refine lv_bipush (v := 8) hx hb dX3_init_16 (by decide) ?_
  refine lv_icmp_ge (tgt := 40) hx hb dX3_init_18 (by decide) (fun hc => absurd hc (by decide)) (fun _ => ?_)
  refine lv_aload_n hx hb dX3_init_21 rfl (lv_at hl 1 rfl) ?_
  refine va_get (D := (dC, dI)) (ci := 2) (v := .ref q0) (C := RX3) (T := TX3) (N := 3) hx hb hts igX3 hown hK hP 0 rfl rfl 0 (by decide) (hts _ kw_125) (fun _ h9 => h9) rfl dX3_init_22 ?_
  refine lv_iload_n hx hb dX3_init_25 rfl (lv_at hl 0 rfl) ?_
  refine va_new (ci := 0) (fs := [.int 0, .int 0, .null, .int 0, .int 0, .int 0]) (C := RX0) (T := TX0) (N := 6) hx hb hts igX0 tyX0 tyX0_ok hown (hts _ kw_942) (hts _ kw_938) (hts _ kw_49) hK hP hD hS hA rfl (by decide) (Nat.le_of_ble_eq_true rfl) (Nat.le_of_ble_eq_true rfl) dX3_init_26 (fun q1 H hP hD hS => ?_)
  have hP : va_P (dC, dI) vwCl [(h0, .inr (2, [.ref q0, .int 0, .int 0])), (q0, .inl (aC 3, 8, .inr (.inr (.inr (.inr (fun _ => none)))))), (q1, .inr (0, [.int 0, .int 0, .null, .int 0, .int 0, .int 0]))] H := hP
  have hD : va_D A [(h0, .inr (2, [.ref q0, .int 0, .int 0])), (q0, .inl (aC 3, 8, .inr (.inr (.inr (.inr (fun _ => none)))))), (q1, .inr (0, [.int 0, .int 0, .null, .int 0, .int 0, .int 0]))] := hD
  refine W.widen (k := 2) (n := 14) (Nat.le_of_ble_eq_true rfl) (Nat.le_of_ble_eq_true rfl) ?_
  refine lv_dup hx hb dX3_init_29 rfl ?_
  have hPc := hP.sub (ws' := [(q1, .inr (0, [.int 0, .int 0, .null, .int 0, .int 0, .int 0]))]) [2] rfl
  have hDc := hD.sub (ws' := [(q1, .inr (0, [.int 0, .int 0, .null, .int 0, .int 0, .int 0]))]) [2] (by decide) rfl
  have hFc := va_free (wc := [(q1, .inr (0, [.int 0, .int 0, .null, .int 0, .int 0, .int 0]))]) hD hS hA [2] rfl
  refine va_callv (va_runIN (host := "MirrorWires") (As := []) (rest := [.ref q1, .int 0, .ref q0]) ⟨hx, hb, hml, hown, hts⟩ (cc_X0_init l dC dI aC q1 H.size) ⟨va_cnB 0 hts (aw_goodc kw_939) rfl rfl rfl hN.2.2.1 (hts _ kw_49) (by decide +kernel) ⟨Nat.le_of_ble_eq_true rfl, Nat.le_of_ble_eq_true rfl⟩, rfl, hts _ kw_940⟩ ⟨cn_blind, fun U hU hW => ⟨rfl, by rw [hU], by rw [hU]; exact hPc, va_K.moved hW.alike hK, hDc.weaken (fun _ _ _ _ => trivial), hN.warm hW⟩⟩ rfl rfl hl.1 rfl (lv_room (Nat.le_of_ble_eq_true rfl)) dX3_init_30 ⟨Nat.le_of_ble_eq_true rfl, Nat.le_of_ble_eq_true rfl⟩) hS (fun q _ h => hFc q h) hFc (fun u t H1 locs ht hvm hw hB hz1 hk1 hS => ?_)
  obtain ⟨q2, hP1, hK1, hD1⟩ := hB
  rw [ht] at hP1
  obtain ⟨hP, hD⟩ := va_join (wr := [(h0, .inr (2, [.ref q0, .int 0, .int 0])), (q0, .inl (aC 3, 8, .inr (.inr (.inr (.inr (fun _ => none))))))]) (w1 := [(q1, .inr (0, [.int 3, .int 0, .ref q2, .int 0, .int 0, .int 1])), (q2, .inl (aC 0, 16, .inl fun _ => 0))]) hP hD [2] [0, 1] rfl rfl (by decide) (by decide) hk1 hFc hP1 hD1
  generalize H1 = H at hP hS ⊢
  have hP : va_P (dC, dI) vwCl [(h0, .inr (2, [.ref q0, .int 0, .int 0])), (q0, .inl (aC 3, 8, .inr (.inr (.inr (.inr (fun _ => none)))))), (q1, .inr (0, [.int 3, .int 0, .ref q2, .int 0, .int 0, .int 1])), (q2, .inl (aC 0, 16, .inl fun _ => 0))] H := hP
  have hD : va_D A [(h0, .inr (2, [.ref q0, .int 0, .int 0])), (q0, .inl (aC 3, 8, .inr (.inr (.inr (.inr (fun _ => none)))))), (q1, .inr (0, [.int 3, .int 0, .ref q2, .int 0, .int 0, .int 1])), (q2, .inl (aC 0, 16, .inl fun _ => 0))] := hD
  refine W.widen (k := 3) (n := 30) (Nat.le_of_ble_eq_true rfl) (Nat.le_of_ble_eq_true rfl) ?_
  refine va_astq hx hb hK hP hD hS 1 3 2 0 rfl rfl rfl rfl (by unfold vp_in; decide) dX3_init_33 (fun H locs hP hD hS => ?_)
  have hP : va_P (dC, dI) vwCl [(h0, .inr (2, [.ref q0, .int 0, .int 0])), (q0, .inl (aC 3, 8, .inr (.inr (.inr (.inr (va_up (fun _ => none) 0 (some q1))))))), (q1, .inr (0, [.int 3, .int 0, .ref q2, .int 0, .int 0, .int 1])), (q2, .inl (aC 0, 16, .inl fun _ => 0))] H := hP
  have hD : va_D A [(h0, .inr (2, [.ref q0, .int 0, .int 0])), (q0, .inl (aC 3, 8, .inr (.inr (.inr (.inr (va_up (fun _ => none) 0 (some q1))))))), (q1, .inr (0, [.int 3, .int 0, .ref q2, .int 0, .int 0, .int 1])), (q2, .inl (aC 0, 16, .inl fun _ => 0))] := hD
  refine lv_iinc (v := 1) (lv' := [(1, .int 1), (0, .ref h0)]) hx hb dX3_init_34 hl (k := 0) rfl (by decide) (by decide) rfl (fun ls hl => ?_)
  refine lv_goto (tgt := 15) hx hb dX3_init_37 (by decide) ?_
  refine lv_iload_n hx hb dX3_init_15 rfl (lv_at hl 0 rfl) ?_
  refine lv_bipush (v := 8) hx hb dX3_init_16 (by decide) ?_
  refine lv_icmp_ge (tgt := 40) hx hb dX3_init_18 (by decide) (fun hc => absurd hc (by decide)) (fun _ => ?_)
  refine lv_aload_n hx hb dX3_init_21 rfl (lv_at hl 1 rfl) ?_
  refine va_get (D := (dC, dI)) (ci := 2) (v := .ref q0) (C := RX3) (T := TX3) (N := 3) hx hb hts igX3 hown hK hP 0 rfl rfl 0 (by decide) (hts _ kw_125) (fun _ h9 => h9) rfl dX3_init_22 ?_
  refine lv_iload_n hx hb dX3_init_25 rfl (lv_at hl 0 rfl) ?_
  refine va_new (ci := 0) (fs := [.int 0, .int 0, .null, .int 0, .int 0, .int 0]) (C := RX0) (T := TX0) (N := 6) hx hb hts igX0 tyX0 tyX0_ok hown (hts _ kw_942) (hts _ kw_938) (hts _ kw_49) hK hP hD hS hA rfl (by decide) (Nat.le_of_ble_eq_true rfl) (Nat.le_of_ble_eq_true rfl) dX3_init_26 (fun q3 H hP hD hS => ?_)
  have hP : va_P (dC, dI) vwCl [(h0, .inr (2, [.ref q0, .int 0, .int 0])), (q0, .inl (aC 3, 8, .inr (.inr (.inr (.inr (va_up (fun _ => none) 0 (some q1))))))), (q1, .inr (0, [.int 3, .int 0, .ref q2, .int 0, .int 0, .int 1])), (q2, .inl (aC 0, 16, .inl fun _ => 0)), (q3, .inr (0, [.int 0, .int 0, .null, .int 0, .int 0, .int 0]))] H := hP
  have hD : va_D A [(h0, .inr (2, [.ref q0, .int 0, .int 0])), (q0, .inl (aC 3, 8, .inr (.inr (.inr (.inr (va_up (fun _ => none) 0 (some q1))))))), (q1, .inr (0, [.int 3, .int 0, .ref q2, .int 0, .int 0, .int 1])), (q2, .inl (aC 0, 16, .inl fun _ => 0)), (q3, .inr (0, [.int 0, .int 0, .null, .int 0, .int 0, .int 0]))] := hD
  refine W.widen (k := 4) (n := 36) (Nat.le_of_ble_eq_true rfl) (Nat.le_of_ble_eq_true rfl) ?_
  refine lv_dup hx hb dX3_init_29 rfl ?_
  have hPc := hP.sub (ws' := [(q3, .inr (0, [.int 0, .int 0, .null, .int 0, .int 0, .int 0]))]) [4] rfl
  have hDc := hD.sub (ws' := [(q3, .inr (0, [.int 0, .int 0, .null, .int 0, .int 0, .int 0]))]) [4] (by decide) rfl
  have hFc := va_free (wc := [(q3, .inr (0, [.int 0, .int 0, .null, .int 0, .int 0, .int 0]))]) hD hS hA [4] rfl
  refine va_callv (va_runIN (host := "MirrorWires") (As := []) (rest := [.ref q3, .int 1, .ref q0]) ⟨hx, hb, hml, hown, hts⟩ (cc_X0_init l dC dI aC q3 H.size) ⟨va_cnB 0 hts (aw_goodc kw_939) rfl rfl rfl hN.2.2.1 (hts _ kw_49) (by decide +kernel) ⟨Nat.le_of_ble_eq_true rfl, Nat.le_of_ble_eq_true rfl⟩, rfl, hts _ kw_940⟩ ⟨cn_blind, fun U hU hW => ⟨rfl, by rw [hU], by rw [hU]; exact hPc, va_K.moved hW.alike hK, hDc.weaken (fun _ _ _ _ => trivial), hN.warm hW⟩⟩ rfl rfl hl.1 rfl (lv_room (Nat.le_of_ble_eq_true rfl)) dX3_init_30 ⟨Nat.le_of_ble_eq_true rfl, Nat.le_of_ble_eq_true rfl⟩) hS (fun q _ h => hFc q h) hFc (fun u t H1 locs ht hvm hw hB hz1 hk1 hS => ?_)
  obtain ⟨q4, hP1, hK1, hD1⟩ := hB
  rw [ht] at hP1
  obtain ⟨hP, hD⟩ := va_join (wr := [(h0, .inr (2, [.ref q0, .int 0, .int 0])), (q0, .inl (aC 3, 8, .inr (.inr (.inr (.inr (va_up (fun _ => none) 0 (some q1))))))), (q1, .inr (0, [.int 3, .int 0, .ref q2, .int 0, .int 0, .int 1])), (q2, .inl (aC 0, 16, .inl fun _ => 0))]) (w1 := [(q3, .inr (0, [.int 3, .int 0, .ref q4, .int 0, .int 0, .int 1])), (q4, .inl (aC 0, 16, .inl fun _ => 0))]) hP hD [4] [0, 1, 2, 3] rfl rfl (by decide) (by decide) hk1 hFc hP1 hD1
  generalize H1 = H at hP hS ⊢
  have hP : va_P (dC, dI) vwCl [(h0, .inr (2, [.ref q0, .int 0, .int 0])), (q0, .inl (aC 3, 8, .inr (.inr (.inr (.inr (va_up (fun _ => none) 0 (some q1))))))), (q1, .inr (0, [.int 3, .int 0, .ref q2, .int 0, .int 0, .int 1])), (q2, .inl (aC 0, 16, .inl fun _ => 0)), (q3, .inr (0, [.int 3, .int 0, .ref q4, .int 0, .int 0, .int 1])), (q4, .inl (aC 0, 16, .inl fun _ => 0))] H := hP
  have hD : va_D A [(h0, .inr (2, [.ref q0, .int 0, .int 0])), (q0, .inl (aC 3, 8, .inr (.inr (.inr (.inr (va_up (fun _ => none) 0 (some q1))))))), (q1, .inr (0, [.int 3, .int 0, .ref q2, .int 0, .int 0, .int 1])), (q2, .inl (aC 0, 16, .inl fun _ => 0)), (q3, .inr (0, [.int 3, .int 0, .ref q4, .int 0, .int 0, .int 1])), (q4, .inl (aC 0, 16, .inl fun _ => 0))] := hD
  refine W.widen (k := 5) (n := 52) (Nat.le_of_ble_eq_true rfl) (Nat.le_of_ble_eq_true rfl) ?_
  refine va_astq hx hb hK hP hD hS 1 3 4 0 rfl rfl rfl rfl (by unfold vp_in; decide) dX3_init_33 (fun H locs hP hD hS => ?_)
  have hP : va_P (dC, dI) vwCl [(h0, .inr (2, [.ref q0, .int 0, .int 0])), (q0, .inl (aC 3, 8, .inr (.inr (.inr (.inr (va_up (va_up (fun _ => none) 0 (some q1)) 1 (some q3))))))), (q1, .inr (0, [.int 3, .int 0, .ref q2, .int 0, .int 0, .int 1])), (q2, .inl (aC 0, 16, .inl fun _ => 0)), (q3, .inr (0, [.int 3, .int 0, .ref q4, .int 0, .int 0, .int 1])), (q4, .inl (aC 0, 16, .inl fun _ => 0))] H := hP
  have hD : va_D A [(h0, .inr (2, [.ref q0, .int 0, .int 0])), (q0, .inl (aC 3, 8, .inr (.inr (.inr (.inr (va_up (va_up (fun _ => none) 0 (some q1)) 1 (some q3))))))), (q1, .inr (0, [.int 3, .int 0, .ref q2, .int 0, .int 0, .int 1])), (q2, .inl (aC 0, 16, .inl fun _ => 0)), (q3, .inr (0, [.int 3, .int 0, .ref q4, .int 0, .int 0, .int 1])), (q4, .inl (aC 0, 16, .inl fun _ => 0))] := hD
  refine lv_iinc (v := 2) (lv' := [(1, .int 2), (0, .ref h0)]) hx hb dX3_init_34 hl (k := 0) rfl (by decide) (by decide) rfl (fun ls hl => ?_)
  refine lv_goto (tgt := 15) hx hb dX3_init_37 (by decide) ?_
  refine lv_iload_n hx hb dX3_init_15 rfl (lv_at hl 0 rfl) ?_
  refine lv_bipush (v := 8) hx hb dX3_init_16 (by decide) ?_
  refine lv_icmp_ge (tgt := 40) hx hb dX3_init_18 (by decide) (fun hc => absurd hc (by decide)) (fun _ => ?_)
  refine lv_aload_n hx hb dX3_init_21 rfl (lv_at hl 1 rfl) ?_
  refine va_get (D := (dC, dI)) (ci := 2) (v := .ref q0) (C := RX3) (T := TX3) (N := 3) hx hb hts igX3 hown hK hP 0 rfl rfl 0 (by decide) (hts _ kw_125) (fun _ h9 => h9) rfl dX3_init_22 ?_
  refine lv_iload_n hx hb dX3_init_25 rfl (lv_at hl 0 rfl) ?_
  refine va_new (ci := 0) (fs := [.int 0, .int 0, .null, .int 0, .int 0, .int 0]) (C := RX0) (T := TX0) (N := 6) hx hb hts igX0 tyX0 tyX0_ok hown (hts _ kw_942) (hts _ kw_938) (hts _ kw_49) hK hP hD hS hA rfl (by decide) (Nat.le_of_ble_eq_true rfl) (Nat.le_of_ble_eq_true rfl) dX3_init_26 (fun q5 H hP hD hS => ?_)
  have hP : va_P (dC, dI) vwCl [(h0, .inr (2, [.ref q0, .int 0, .int 0])), (q0, .inl (aC 3, 8, .inr (.inr (.inr (.inr (va_up (va_up (fun _ => none) 0 (some q1)) 1 (some q3))))))), (q1, .inr (0, [.int 3, .int 0, .ref q2, .int 0, .int 0, .int 1])), (q2, .inl (aC 0, 16, .inl fun _ => 0)), (q3, .inr (0, [.int 3, .int 0, .ref q4, .int 0, .int 0, .int 1])), (q4, .inl (aC 0, 16, .inl fun _ => 0)), (q5, .inr (0, [.int 0, .int 0, .null, .int 0, .int 0, .int 0]))] H := hP
  have hD : va_D A [(h0, .inr (2, [.ref q0, .int 0, .int 0])), (q0, .inl (aC 3, 8, .inr (.inr (.inr (.inr (va_up (va_up (fun _ => none) 0 (some q1)) 1 (some q3))))))), (q1, .inr (0, [.int 3, .int 0, .ref q2, .int 0, .int 0, .int 1])), (q2, .inl (aC 0, 16, .inl fun _ => 0)), (q3, .inr (0, [.int 3, .int 0, .ref q4, .int 0, .int 0, .int 1])), (q4, .inl (aC 0, 16, .inl fun _ => 0)), (q5, .inr (0, [.int 0, .int 0, .null, .int 0, .int 0, .int 0]))] := hD
  refine W.widen (k := 6) (n := 58) (Nat.le_of_ble_eq_true rfl) (Nat.le_of_ble_eq_true rfl) ?_
  refine lv_dup hx hb dX3_init_29 rfl ?_
  have hPc := hP.sub (ws' := [(q5, .inr (0, [.int 0, .int 0, .null, .int 0, .int 0, .int 0]))]) [6] rfl
  have hDc := hD.sub (ws' := [(q5, .inr (0, [.int 0, .int 0, .null, .int 0, .int 0, .int 0]))]) [6] (by decide) rfl
  have hFc := va_free (wc := [(q5, .inr (0, [.int 0, .int 0, .null, .int 0, .int 0, .int 0]))]) hD hS hA [6] rfl
  refine va_callv (va_runIN (host := "MirrorWires") (As := []) (rest := [.ref q5, .int 2, .ref q0]) ⟨hx, hb, hml, hown, hts⟩ (cc_X0_init l dC dI aC q5 H.size) ⟨va_cnB 0 hts (aw_goodc kw_939) rfl rfl rfl hN.2.2.1 (hts _ kw_49) (by decide +kernel) ⟨Nat.le_of_ble_eq_true rfl, Nat.le_of_ble_eq_true rfl⟩, rfl, hts _ kw_940⟩ ⟨cn_blind, fun U hU hW => ⟨rfl, by rw [hU], by rw [hU]; exact hPc, va_K.moved hW.alike hK, hDc.weaken (fun _ _ _ _ => trivial), hN.warm hW⟩⟩ rfl rfl hl.1 rfl (lv_room (Nat.le_of_ble_eq_true rfl)) dX3_init_30 ⟨Nat.le_of_ble_eq_true rfl, Nat.le_of_ble_eq_true rfl⟩) hS (fun q _ h => hFc q h) hFc (fun u t H1 locs ht hvm hw hB hz1 hk1 hS => ?_)
  obtain ⟨q6, hP1, hK1, hD1⟩ := hB
  rw [ht] at hP1
  obtain ⟨hP, hD⟩ := va_join (wr := [(h0, .inr (2, [.ref q0, .int 0, .int 0])), (q0, .inl (aC 3, 8, .inr (.inr (.inr (.inr (va_up (va_up (fun _ => none) 0 (some q1)) 1 (some q3))))))), (q1, .inr (0, [.int 3, .int 0, .ref q2, .int 0, .int 0, .int 1])), (q2, .inl (aC 0, 16, .inl fun _ => 0)), (q3, .inr (0, [.int 3, .int 0, .ref q4, .int 0, .int 0, .int 1])), (q4, .inl (aC 0, 16, .inl fun _ => 0))]) (w1 := [(q5, .inr (0, [.int 3, .int 0, .ref q6, .int 0, .int 0, .int 1])), (q6, .inl (aC 0, 16, .inl fun _ => 0))]) hP hD [6] [0, 1, 2, 3, 4, 5] rfl rfl (by decide) (by decide) hk1 hFc hP1 hD1
  generalize H1 = H at hP hS ⊢
  have hP : va_P (dC, dI) vwCl [(h0, .inr (2, [.ref q0, .int 0, .int 0])), (q0, .inl (aC 3, 8, .inr (.inr (.inr (.inr (va_up (va_up (fun _ => none) 0 (some q1)) 1 (some q3))))))), (q1, .inr (0, [.int 3, .int 0, .ref q2, .int 0, .int 0, .int 1])), (q2, .inl (aC 0, 16, .inl fun _ => 0)), (q3, .inr (0, [.int 3, .int 0, .ref q4, .int 0, .int 0, .int 1])), (q4, .inl (aC 0, 16, .inl fun _ => 0)), (q5, .inr (0, [.int 3, .int 0, .ref q6, .int 0, .int 0, .int 1])), (q6, .inl (aC 0, 16, .inl fun _ => 0))] H := hP
  have hD : va_D A [(h0, .inr (2, [.ref q0, .int 0, .int 0])), (q0, .inl (aC 3, 8, .inr (.inr (.inr (.inr (va_up (va_up (fun _ => none) 0 (some q1)) 1 (some q3))))))), (q1, .inr (0, [.int 3, .int 0, .ref q2, .int 0, .int 0, .int 1])), (q2, .inl (aC 0, 16, .inl fun _ => 0)), (q3, .inr (0, [.int 3, .int 0, .ref q4, .int 0, .int 0, .int 1])), (q4, .inl (aC 0, 16, .inl fun _ => 0)), (q5, .inr (0, [.int 3, .int 0, .ref q6, .int 0, .int 0, .int 1])), (q6, .inl (aC 0, 16, .inl fun _ => 0))] := hD
  refine W.widen (k := 7) (n := 74) (Nat.le_of_ble_eq_true rfl) (Nat.le_of_ble_eq_true rfl) ?_
  refine va_astq hx hb hK hP hD hS 1 3 6 0 rfl rfl rfl rfl (by unfold vp_in; decide) dX3_init_33 (fun H locs hP hD hS => ?_)
  have hP : va_P (dC, dI) vwCl [(h0, .inr (2, [.ref q0, .int 0, .int 0])), (q0, .inl (aC 3, 8, .inr (.inr (.inr (.inr (va_up (va_up (va_up (fun _ => none) 0 (some q1)) 1 (some q3)) 2 (some q5))))))), (q1, .inr (0, [.int 3, .int 0, .ref q2, .int 0, .int 0, .int 1])), (q2, .inl (aC 0, 16, .inl fun _ => 0)), (q3, .inr (0, [.int 3, .int 0, .ref q4, .int 0, .int 0, .int 1])), (q4, .inl (aC 0, 16, .inl fun _ => 0)), (q5, .inr (0, [.int 3, .int 0, .ref q6, .int 0, .int 0, .int 1])), (q6, .inl (aC 0, 16, .inl fun _ => 0))] H := hP
  have hD : va_D A [(h0, .inr (2, [.ref q0, .int 0, .int 0])), (q0, .inl (aC 3, 8, .inr (.inr (.inr (.inr (va_up (va_up (va_up (fun _ => none) 0 (some q1)) 1 (some q3)) 2 (some q5))))))), (q1, .inr (0, [.int 3, .int 0, .ref q2, .int 0, .int 0, .int 1])), (q2, .inl (aC 0, 16, .inl fun _ => 0)), (q3, .inr (0, [.int 3, .int 0, .ref q4, .int 0, .int 0, .int 1])), (q4, .inl (aC 0, 16, .inl fun _ => 0)), (q5, .inr (0, [.int 3, .int 0, .ref q6, .int 0, .int 0, .int 1])), (q6, .inl (aC 0, 16, .inl fun _ => 0))] := hD
  refine lv_iinc (v := 3) (lv' := [(1, .int 3), (0, .ref h0)]) hx hb dX3_init_34 hl (k := 0) rfl (by decide) (by decide) rfl (fun ls hl => ?_)
  refine lv_goto (tgt := 15) hx hb dX3_init_37 (by decide) ?_
  refine lv_iload_n hx hb dX3_init_15 rfl (lv_at hl 0 rfl) ?_
  refine lv_bipush (v := 8) hx hb dX3_init_16 (by decide) ?_
  refine lv_icmp_ge (tgt := 40) hx hb dX3_init_18 (by decide) (fun hc => absurd hc (by decide)) (fun _ => ?_)
  refine lv_aload_n hx hb dX3_init_21 rfl (lv_at hl 1 rfl) ?_
  refine va_get (D := (dC, dI)) (ci := 2) (v := .ref q0) (C := RX3) (T := TX3) (N := 3) hx hb hts igX3 hown hK hP 0 rfl rfl 0 (by decide) (hts _ kw_125) (fun _ h9 => h9) rfl dX3_init_22 ?_
  refine lv_iload_n hx hb dX3_init_25 rfl (lv_at hl 0 rfl) ?_
  refine va_new (ci := 0) (fs := [.int 0, .int 0, .null, .int 0, .int 0, .int 0]) (C := RX0) (T := TX0) (N := 6) hx hb hts igX0 tyX0 tyX0_ok hown (hts _ kw_942) (hts _ kw_938) (hts _ kw_49) hK hP hD hS hA rfl (by decide) (Nat.le_of_ble_eq_true rfl) (Nat.le_of_ble_eq_true rfl) dX3_init_26 (fun q7 H hP hD hS => ?_)
  have hP : va_P (dC, dI) vwCl [(h0, .inr (2, [.ref q0, .int 0, .int 0])), (q0, .inl (aC 3, 8, .inr (.inr (.inr (.inr (va_up (va_up (va_up (fun _ => none) 0 (some q1)) 1 (some q3)) 2 (some q5))))))), (q1, .inr (0, [.int 3, .int 0, .ref q2, .int 0, .int 0, .int 1])), (q2, .inl (aC 0, 16, .inl fun _ => 0)), (q3, .inr (0, [.int 3, .int 0, .ref q4, .int 0, .int 0, .int 1])), (q4, .inl (aC 0, 16, .inl fun _ => 0)), (q5, .inr (0, [.int 3, .int 0, .ref q6, .int 0, .int 0, .int 1])), (q6, .inl (aC 0, 16, .inl fun _ => 0)), (q7, .inr (0, [.int 0, .int 0, .null, .int 0, .int 0, .int 0]))] H := hP
  have hD : va_D A [(h0, .inr (2, [.ref q0, .int 0, .int 0])), (q0, .inl (aC 3, 8, .inr (.inr (.inr (.inr (va_up (va_up (va_up (fun _ => none) 0 (some q1)) 1 (some q3)) 2 (some q5))))))), (q1, .inr (0, [.int 3, .int 0, .ref q2, .int 0, .int 0, .int 1])), (q2, .inl (aC 0, 16, .inl fun _ => 0)), (q3, .inr (0, [.int 3, .int 0, .ref q4, .int 0, .int 0, .int 1])), (q4, .inl (aC 0, 16, .inl fun _ => 0)), (q5, .inr (0, [.int 3, .int 0, .ref q6, .int 0, .int 0, .int 1])), (q6, .inl (aC 0, 16, .inl fun _ => 0)), (q7, .inr (0, [.int 0, .int 0, .null, .int 0, .int 0, .int 0]))] := hD
  refine W.widen (k := 8) (n := 80) (Nat.le_of_ble_eq_true rfl) (Nat.le_of_ble_eq_true rfl) ?_
  refine lv_dup hx hb dX3_init_29 rfl ?_
  have hPc := hP.sub (ws' := [(q7, .inr (0, [.int 0, .int 0, .null, .int 0, .int 0, .int 0]))]) [8] rfl
  have hDc := hD.sub (ws' := [(q7, .inr (0, [.int 0, .int 0, .null, .int 0, .int 0, .int 0]))]) [8] (by decide) rfl
  have hFc := va_free (wc := [(q7, .inr (0, [.int 0, .int 0, .null, .int 0, .int 0, .int 0]))]) hD hS hA [8] rfl
  refine va_callv (va_runIN (host := "MirrorWires") (As := []) (rest := [.ref q7, .int 3, .ref q0]) ⟨hx, hb, hml, hown, hts⟩ (cc_X0_init l dC dI aC q7 H.size) ⟨va_cnB 0 hts (aw_goodc kw_939) rfl rfl rfl hN.2.2.1 (hts _ kw_49) (by decide +kernel) ⟨Nat.le_of_ble_eq_true rfl, Nat.le_of_ble_eq_true rfl⟩, rfl, hts _ kw_940⟩ ⟨cn_blind, fun U hU hW => ⟨rfl, by rw [hU], by rw [hU]; exact hPc, va_K.moved hW.alike hK, hDc.weaken (fun _ _ _ _ => trivial), hN.warm hW⟩⟩ rfl rfl hl.1 rfl (lv_room (Nat.le_of_ble_eq_true rfl)) dX3_init_30 ⟨Nat.le_of_ble_eq_true rfl, Nat.le_of_ble_eq_true rfl⟩) hS (fun q _ h => hFc q h) hFc (fun u t H1 locs ht hvm hw hB hz1 hk1 hS => ?_)
  obtain ⟨q8, hP1, hK1, hD1⟩ := hB
  rw [ht] at hP1
  obtain ⟨hP, hD⟩ := va_join (wr := [(h0, .inr (2, [.ref q0, .int 0, .int 0])), (q0, .inl (aC 3, 8, .inr (.inr (.inr (.inr (va_up (va_up (va_up (fun _ => none) 0 (some q1)) 1 (some q3)) 2 (some q5))))))), (q1, .inr (0, [.int 3, .int 0, .ref q2, .int 0, .int 0, .int 1])), (q2, .inl (aC 0, 16, .inl fun _ => 0)), (q3, .inr (0, [.int 3, .int 0, .ref q4, .int 0, .int 0, .int 1])), (q4, .inl (aC 0, 16, .inl fun _ => 0)), (q5, .inr (0, [.int 3, .int 0, .ref q6, .int 0, .int 0, .int 1])), (q6, .inl (aC 0, 16, .inl fun _ => 0))]) (w1 := [(q7, .inr (0, [.int 3, .int 0, .ref q8, .int 0, .int 0, .int 1])), (q8, .inl (aC 0, 16, .inl fun _ => 0))]) hP hD [8] [0, 1, 2, 3, 4, 5, 6, 7] rfl rfl (by decide) (by decide) hk1 hFc hP1 hD1
  generalize H1 = H at hP hS ⊢
  have hP : va_P (dC, dI) vwCl [(h0, .inr (2, [.ref q0, .int 0, .int 0])), (q0, .inl (aC 3, 8, .inr (.inr (.inr (.inr (va_up (va_up (va_up (fun _ => none) 0 (some q1)) 1 (some q3)) 2 (some q5))))))), (q1, .inr (0, [.int 3, .int 0, .ref q2, .int 0, .int 0, .int 1])), (q2, .inl (aC 0, 16, .inl fun _ => 0)), (q3, .inr (0, [.int 3, .int 0, .ref q4, .int 0, .int 0, .int 1])), (q4, .inl (aC 0, 16, .inl fun _ => 0)), (q5, .inr (0, [.int 3, .int 0, .ref q6, .int 0, .int 0, .int 1])), (q6, .inl (aC 0, 16, .inl fun _ => 0)), (q7, .inr (0, [.int 3, .int 0, .ref q8, .int 0, .int 0, .int 1])), (q8, .inl (aC 0, 16, .inl fun _ => 0))] H := hP
  have hD : va_D A [(h0, .inr (2, [.ref q0, .int 0, .int 0])), (q0, .inl (aC 3, 8, .inr (.inr (.inr (.inr (va_up (va_up (va_up (fun _ => none) 0 (some q1)) 1 (some q3)) 2 (some q5))))))), (q1, .inr (0, [.int 3, .int 0, .ref q2, .int 0, .int 0, .int 1])), (q2, .inl (aC 0, 16, .inl fun _ => 0)), (q3, .inr (0, [.int 3, .int 0, .ref q4, .int 0, .int 0, .int 1])), (q4, .inl (aC 0, 16, .inl fun _ => 0)), (q5, .inr (0, [.int 3, .int 0, .ref q6, .int 0, .int 0, .int 1])), (q6, .inl (aC 0, 16, .inl fun _ => 0)), (q7, .inr (0, [.int 3, .int 0, .ref q8, .int 0, .int 0, .int 1])), (q8, .inl (aC 0, 16, .inl fun _ => 0))] := hD
  refine W.widen (k := 9) (n := 96) (Nat.le_of_ble_eq_true rfl) (Nat.le_of_ble_eq_true rfl) ?_
  refine va_astq hx hb hK hP hD hS 1 3 8 0 rfl rfl rfl rfl (by unfold vp_in; decide) dX3_init_33 (fun H locs hP hD hS => ?_)
  have hP : va_P (dC, dI) vwCl [(h0, .inr (2, [.ref q0, .int 0, .int 0])), (q0, .inl (aC 3, 8, .inr (.inr (.inr (.inr (va_up (va_up (va_up (va_up (fun _ => none) 0 (some q1)) 1 (some q3)) 2 (some q5)) 3 (some q7))))))), (q1, .inr (0, [.int 3, .int 0, .ref q2, .int 0, .int 0, .int 1])), (q2, .inl (aC 0, 16, .inl fun _ => 0)), (q3, .inr (0, [.int 3, .int 0, .ref q4, .int 0, .int 0, .int 1])), (q4, .inl (aC 0, 16, .inl fun _ => 0)), (q5, .inr (0, [.int 3, .int 0, .ref q6, .int 0, .int 0, .int 1])), (q6, .inl (aC 0, 16, .inl fun _ => 0)), (q7, .inr (0, [.int 3, .int 0, .ref q8, .int 0, .int 0, .int 1])), (q8, .inl (aC 0, 16, .inl fun _ => 0))] H := hP
  have hD : va_D A [(h0, .inr (2, [.ref q0, .int 0, .int 0])), (q0, .inl (aC 3, 8, .inr (.inr (.inr (.inr (va_up (va_up (va_up (va_up (fun _ => none) 0 (some q1)) 1 (some q3)) 2 (some q5)) 3 (some q7))))))), (q1, .inr (0, [.int 3, .int 0, .ref q2, .int 0, .int 0, .int 1])), (q2, .inl (aC 0, 16, .inl fun _ => 0)), (q3, .inr (0, [.int 3, .int 0, .ref q4, .int 0, .int 0, .int 1])), (q4, .inl (aC 0, 16, .inl fun _ => 0)), (q5, .inr (0, [.int 3, .int 0, .ref q6, .int 0, .int 0, .int 1])), (q6, .inl (aC 0, 16, .inl fun _ => 0)), (q7, .inr (0, [.int 3, .int 0, .ref q8, .int 0, .int 0, .int 1])), (q8, .inl (aC 0, 16, .inl fun _ => 0))] := hD
  refine lv_iinc (v := 4) (lv' := [(1, .int 4), (0, .ref h0)]) hx hb dX3_init_34 hl (k := 0) rfl (by decide) (by decide) rfl (fun ls hl => ?_)
  refine lv_goto (tgt := 15) hx hb dX3_init_37 (by decide) ?_
  refine lv_iload_n hx hb dX3_init_15 rfl (lv_at hl 0 rfl) ?_
  refine lv_bipush (v := 8) hx hb dX3_init_16 (by decide) ?_
  refine lv_icmp_ge (tgt := 40) hx hb dX3_init_18 (by decide) (fun hc => absurd hc (by decide)) (fun _ => ?_)
  refine lv_aload_n hx hb dX3_init_21 rfl (lv_at hl 1 rfl) ?_
  refine va_get (D := (dC, dI)) (ci := 2) (v := .ref q0) (C := RX3) (T := TX3) (N := 3) hx hb hts igX3 hown hK hP 0 rfl rfl 0 (by decide) (hts _ kw_125) (fun _ h9 => h9) rfl dX3_init_22 ?_
  refine lv_iload_n hx hb dX3_init_25 rfl (lv_at hl 0 rfl) ?_
  refine va_new (ci := 0) (fs := [.int 0, .int 0, .null, .int 0, .int 0, .int 0]) (C := RX0) (T := TX0) (N := 6) hx hb hts igX0 tyX0 tyX0_ok hown (hts _ kw_942) (hts _ kw_938) (hts _ kw_49) hK hP hD hS hA rfl (by decide) (Nat.le_of_ble_eq_true rfl) (Nat.le_of_ble_eq_true rfl) dX3_init_26 (fun q9 H hP hD hS => ?_)
  have hP : va_P (dC, dI) vwCl [(h0, .inr (2, [.ref q0, .int 0, .int 0])), (q0, .inl (aC 3, 8, .inr (.inr (.inr (.inr (va_up (va_up (va_up (va_up (fun _ => none) 0 (some q1)) 1 (some q3)) 2 (some q5)) 3 (some q7))))))), (q1, .inr (0, [.int 3, .int 0, .ref q2, .int 0, .int 0, .int 1])), (q2, .inl (aC 0, 16, .inl fun _ => 0)), (q3, .inr (0, [.int 3, .int 0, .ref q4, .int 0, .int 0, .int 1])), (q4, .inl (aC 0, 16, .inl fun _ => 0)), (q5, .inr (0, [.int 3, .int 0, .ref q6, .int 0, .int 0, .int 1])), (q6, .inl (aC 0, 16, .inl fun _ => 0)), (q7, .inr (0, [.int 3, .int 0, .ref q8, .int 0, .int 0, .int 1])), (q8, .inl (aC 0, 16, .inl fun _ => 0)), (q9, .inr (0, [.int 0, .int 0, .null, .int 0, .int 0, .int 0]))] H := hP
  have hD : va_D A [(h0, .inr (2, [.ref q0, .int 0, .int 0])), (q0, .inl (aC 3, 8, .inr (.inr (.inr (.inr (va_up (va_up (va_up (va_up (fun _ => none) 0 (some q1)) 1 (some q3)) 2 (some q5)) 3 (some q7))))))), (q1, .inr (0, [.int 3, .int 0, .ref q2, .int 0, .int 0, .int 1])), (q2, .inl (aC 0, 16, .inl fun _ => 0)), (q3, .inr (0, [.int 3, .int 0, .ref q4, .int 0, .int 0, .int 1])), (q4, .inl (aC 0, 16, .inl fun _ => 0)), (q5, .inr (0, [.int 3, .int 0, .ref q6, .int 0, .int 0, .int 1])), (q6, .inl (aC 0, 16, .inl fun _ => 0)), (q7, .inr (0, [.int 3, .int 0, .ref q8, .int 0, .int 0, .int 1])), (q8, .inl (aC 0, 16, .inl fun _ => 0)), (q9, .inr (0, [.int 0, .int 0, .null, .int 0, .int 0, .int 0]))] := hD
  refine W.widen (k := 10) (n := 102) (Nat.le_of_ble_eq_true rfl) (Nat.le_of_ble_eq_true rfl) ?_
  refine lv_dup hx hb dX3_init_29 rfl ?_
  have hPc := hP.sub (ws' := [(q9, .inr (0, [.int 0, .int 0, .null, .int 0, .int 0, .int 0]))]) [10] rfl
  have hDc := hD.sub (ws' := [(q9, .inr (0, [.int 0, .int 0, .null, .int 0, .int 0, .int 0]))]) [10] (by decide) rfl
  have hFc := va_free (wc := [(q9, .inr (0, [.int 0, .int 0, .null, .int 0, .int 0, .int 0]))]) hD hS hA [10] rfl
  refine va_callv (va_runIN (host := "MirrorWires") (As := []) (rest := [.ref q9, .int 4, .ref q0]) ⟨hx, hb, hml, hown, hts⟩ (cc_X0_init l dC dI aC q9 H.size) ⟨va_cnB 0 hts (aw_goodc kw_939) rfl rfl rfl hN.2.2.1 (hts _ kw_49) (by decide +kernel) ⟨Nat.le_of_ble_eq_true rfl, Nat.le_of_ble_eq_true rfl⟩, rfl, hts _ kw_940⟩ ⟨cn_blind, fun U hU hW => ⟨rfl, by rw [hU], by rw [hU]; exact hPc, va_K.moved hW.alike hK, hDc.weaken (fun _ _ _ _ => trivial), hN.warm hW⟩⟩ rfl rfl hl.1 rfl (lv_room (Nat.le_of_ble_eq_true rfl)) dX3_init_30 ⟨Nat.le_of_ble_eq_true rfl, Nat.le_of_ble_eq_true rfl⟩) hS (fun q _ h => hFc q h) hFc (fun u t H1 locs ht hvm hw hB hz1 hk1 hS => ?_)
  obtain ⟨q10, hP1, hK1, hD1⟩ := hB
  rw [ht] at hP1
  obtain ⟨hP, hD⟩ := va_join (wr := [(h0, .inr (2, [.ref q0, .int 0, .int 0])), (q0, .inl (aC 3, 8, .inr (.inr (.inr (.inr (va_up (va_up (va_up (va_up (fun _ => none) 0 (some q1)) 1 (some q3)) 2 (some q5)) 3 (some q7))))))), (q1, .inr (0, [.int 3, .int 0, .ref q2, .int 0, .int 0, .int 1])), (q2, .inl (aC 0, 16, .inl fun _ => 0)), (q3, .inr (0, [.int 3, .int 0, .ref q4, .int 0, .int 0, .int 1])), (q4, .inl (aC 0, 16, .inl fun _ => 0)), (q5, .inr (0, [.int 3, .int 0, .ref q6, .int 0, .int 0, .int 1])), (q6, .inl (aC 0, 16, .inl fun _ => 0)), (q7, .inr (0, [.int 3, .int 0, .ref q8, .int 0, .int 0, .int 1])), (q8, .inl (aC 0, 16, .inl fun _ => 0))]) (w1 := [(q9, .inr (0, [.int 3, .int 0, .ref q10, .int 0, .int 0, .int 1])), (q10, .inl (aC 0, 16, .inl fun _ => 0))]) hP hD [10] [0, 1, 2, 3, 4, 5, 6, 7, 8, 9] rfl rfl (by decide) (by decide) hk1 hFc hP1 hD1
  generalize H1 = H at hP hS ⊢
  have hP : va_P (dC, dI) vwCl [(h0, .inr (2, [.ref q0, .int 0, .int 0])), (q0, .inl (aC 3, 8, .inr (.inr (.inr (.inr (va_up (va_up (va_up (va_up (fun _ => none) 0 (some q1)) 1 (some q3)) 2 (some q5)) 3 (some q7))))))), (q1, .inr (0, [.int 3, .int 0, .ref q2, .int 0, .int 0, .int 1])), (q2, .inl (aC 0, 16, .inl fun _ => 0)), (q3, .inr (0, [.int 3, .int 0, .ref q4, .int 0, .int 0, .int 1])), (q4, .inl (aC 0, 16, .inl fun _ => 0)), (q5, .inr (0, [.int 3, .int 0, .ref q6, .int 0, .int 0, .int 1])), (q6, .inl (aC 0, 16, .inl fun _ => 0)), (q7, .inr (0, [.int 3, .int 0, .ref q8, .int 0, .int 0, .int 1])), (q8, .inl (aC 0, 16, .inl fun _ => 0)), (q9, .inr (0, [.int 3, .int 0, .ref q10, .int 0, .int 0, .int 1])), (q10, .inl (aC 0, 16, .inl fun _ => 0))] H := hP
  have hD : va_D A [(h0, .inr (2, [.ref q0, .int 0, .int 0])), (q0, .inl (aC 3, 8, .inr (.inr (.inr (.inr (va_up (va_up (va_up (va_up (fun _ => none) 0 (some q1)) 1 (some q3)) 2 (some q5)) 3 (some q7))))))), (q1, .inr (0, [.int 3, .int 0, .ref q2, .int 0, .int 0, .int 1])), (q2, .inl (aC 0, 16, .inl fun _ => 0)), (q3, .inr (0, [.int 3, .int 0, .ref q4, .int 0, .int 0, .int 1])), (q4, .inl (aC 0, 16, .inl fun _ => 0)), (q5, .inr (0, [.int 3, .int 0, .ref q6, .int 0, .int 0, .int 1])), (q6, .inl (aC 0, 16, .inl fun _ => 0)), (q7, .inr (0, [.int 3, .int 0, .ref q8, .int 0, .int 0, .int 1])), (q8, .inl (aC 0, 16, .inl fun _ => 0)), (q9, .inr (0, [.int 3, .int 0, .ref q10, .int 0, .int 0, .int 1])), (q10, .inl (aC 0, 16, .inl fun _ => 0))] := hD
  refine W.widen (k := 11) (n := 118) (Nat.le_of_ble_eq_true rfl) (Nat.le_of_ble_eq_true rfl) ?_
  refine va_astq hx hb hK hP hD hS 1 3 10 0 rfl rfl rfl rfl (by unfold vp_in; decide) dX3_init_33 (fun H locs hP hD hS => ?_)
  have hP : va_P (dC, dI) vwCl [(h0, .inr (2, [.ref q0, .int 0, .int 0])), (q0, .inl (aC 3, 8, .inr (.inr (.inr (.inr (va_up (va_up (va_up (va_up (va_up (fun _ => none) 0 (some q1)) 1 (some q3)) 2 (some q5)) 3 (some q7)) 4 (some q9))))))), (q1, .inr (0, [.int 3, .int 0, .ref q2, .int 0, .int 0, .int 1])), (q2, .inl (aC 0, 16, .inl fun _ => 0)), (q3, .inr (0, [.int 3, .int 0, .ref q4, .int 0, .int 0, .int 1])), (q4, .inl (aC 0, 16, .inl fun _ => 0)), (q5, .inr (0, [.int 3, .int 0, .ref q6, .int 0, .int 0, .int 1])), (q6, .inl (aC 0, 16, .inl fun _ => 0)), (q7, .inr (0, [.int 3, .int 0, .ref q8, .int 0, .int 0, .int 1])), (q8, .inl (aC 0, 16, .inl fun _ => 0)), (q9, .inr (0, [.int 3, .int 0, .ref q10, .int 0, .int 0, .int 1])), (q10, .inl (aC 0, 16, .inl fun _ => 0))] H := hP
  have hD : va_D A [(h0, .inr (2, [.ref q0, .int 0, .int 0])), (q0, .inl (aC 3, 8, .inr (.inr (.inr (.inr (va_up (va_up (va_up (va_up (va_up (fun _ => none) 0 (some q1)) 1 (some q3)) 2 (some q5)) 3 (some q7)) 4 (some q9))))))), (q1, .inr (0, [.int 3, .int 0, .ref q2, .int 0, .int 0, .int 1])), (q2, .inl (aC 0, 16, .inl fun _ => 0)), (q3, .inr (0, [.int 3, .int 0, .ref q4, .int 0, .int 0, .int 1])), (q4, .inl (aC 0, 16, .inl fun _ => 0)), (q5, .inr (0, [.int 3, .int 0, .ref q6, .int 0, .int 0, .int 1])), (q6, .inl (aC 0, 16, .inl fun _ => 0)), (q7, .inr (0, [.int 3, .int 0, .ref q8, .int 0, .int 0, .int 1])), (q8, .inl (aC 0, 16, .inl fun _ => 0)), (q9, .inr (0, [.int 3, .int 0, .ref q10, .int 0, .int 0, .int 1])), (q10, .inl (aC 0, 16, .inl fun _ => 0))] := hD
  refine lv_iinc (v := 5) (lv' := [(1, .int 5), (0, .ref h0)]) hx hb dX3_init_34 hl (k := 0) rfl (by decide) (by decide) rfl (fun ls hl => ?_)
  refine lv_goto (tgt := 15) hx hb dX3_init_37 (by decide) ?_
  refine lv_iload_n hx hb dX3_init_15 rfl (lv_at hl 0 rfl) ?_
  refine lv_bipush (v := 8) hx hb dX3_init_16 (by decide) ?_
  refine lv_icmp_ge (tgt := 40) hx hb dX3_init_18 (by decide) (fun hc => absurd hc (by decide)) (fun _ => ?_)
  refine lv_aload_n hx hb dX3_init_21 rfl (lv_at hl 1 rfl) ?_
  refine va_get (D := (dC, dI)) (ci := 2) (v := .ref q0) (C := RX3) (T := TX3) (N := 3) hx hb hts igX3 hown hK hP 0 rfl rfl 0 (by decide) (hts _ kw_125) (fun _ h9 => h9) rfl dX3_init_22 ?_
  refine lv_iload_n hx hb dX3_init_25 rfl (lv_at hl 0 rfl) ?_
  refine va_new (ci := 0) (fs := [.int 0, .int 0, .null, .int 0, .int 0, .int 0]) (C := RX0) (T := TX0) (N := 6) hx hb hts igX0 tyX0 tyX0_ok hown (hts _ kw_942) (hts _ kw_938) (hts _ kw_49) hK hP hD hS hA rfl (by decide) (Nat.le_of_ble_eq_true rfl) (Nat.le_of_ble_eq_true rfl) dX3_init_26 (fun q11 H hP hD hS => ?_)
  have hP : va_P (dC, dI) vwCl [(h0, .inr (2, [.ref q0, .int 0, .int 0])), (q0, .inl (aC 3, 8, .inr (.inr (.inr (.inr (va_up (va_up (va_up (va_up (va_up (fun _ => none) 0 (some q1)) 1 (some q3)) 2 (some q5)) 3 (some q7)) 4 (some q9))))))), (q1, .inr (0, [.int 3, .int 0, .ref q2, .int 0, .int 0, .int 1])), (q2, .inl (aC 0, 16, .inl fun _ => 0)), (q3, .inr (0, [.int 3, .int 0, .ref q4, .int 0, .int 0, .int 1])), (q4, .inl (aC 0, 16, .inl fun _ => 0)), (q5, .inr (0, [.int 3, .int 0, .ref q6, .int 0, .int 0, .int 1])), (q6, .inl (aC 0, 16, .inl fun _ => 0)), (q7, .inr (0, [.int 3, .int 0, .ref q8, .int 0, .int 0, .int 1])), (q8, .inl (aC 0, 16, .inl fun _ => 0)), (q9, .inr (0, [.int 3, .int 0, .ref q10, .int 0, .int 0, .int 1])), (q10, .inl (aC 0, 16, .inl fun _ => 0)), (q11, .inr (0, [.int 0, .int 0, .null, .int 0, .int 0, .int 0]))] H := hP
  have hD : va_D A [(h0, .inr (2, [.ref q0, .int 0, .int 0])), (q0, .inl (aC 3, 8, .inr (.inr (.inr (.inr (va_up (va_up (va_up (va_up (va_up (fun _ => none) 0 (some q1)) 1 (some q3)) 2 (some q5)) 3 (some q7)) 4 (some q9))))))), (q1, .inr (0, [.int 3, .int 0, .ref q2, .int 0, .int 0, .int 1])), (q2, .inl (aC 0, 16, .inl fun _ => 0)), (q3, .inr (0, [.int 3, .int 0, .ref q4, .int 0, .int 0, .int 1])), (q4, .inl (aC 0, 16, .inl fun _ => 0)), (q5, .inr (0, [.int 3, .int 0, .ref q6, .int 0, .int 0, .int 1])), (q6, .inl (aC 0, 16, .inl fun _ => 0)), (q7, .inr (0, [.int 3, .int 0, .ref q8, .int 0, .int 0, .int 1])), (q8, .inl (aC 0, 16, .inl fun _ => 0)), (q9, .inr (0, [.int 3, .int 0, .ref q10, .int 0, .int 0, .int 1])), (q10, .inl (aC 0, 16, .inl fun _ => 0)), (q11, .inr (0, [.int 0, .int 0, .null, .int 0, .int 0, .int 0]))] := hD
  refine W.widen (k := 12) (n := 124) (Nat.le_of_ble_eq_true rfl) (Nat.le_of_ble_eq_true rfl) ?_
  refine lv_dup hx hb dX3_init_29 rfl ?_
  have hPc := hP.sub (ws' := [(q11, .inr (0, [.int 0, .int 0, .null, .int 0, .int 0, .int 0]))]) [12] rfl
  have hDc := hD.sub (ws' := [(q11, .inr (0, [.int 0, .int 0, .null, .int 0, .int 0, .int 0]))]) [12] (by decide) rfl
  have hFc := va_free (wc := [(q11, .inr (0, [.int 0, .int 0, .null, .int 0, .int 0, .int 0]))]) hD hS hA [12] rfl
  refine va_callv (va_runIN (host := "MirrorWires") (As := []) (rest := [.ref q11, .int 5, .ref q0]) ⟨hx, hb, hml, hown, hts⟩ (cc_X0_init l dC dI aC q11 H.size) ⟨va_cnB 0 hts (aw_goodc kw_939) rfl rfl rfl hN.2.2.1 (hts _ kw_49) (by decide +kernel) ⟨Nat.le_of_ble_eq_true rfl, Nat.le_of_ble_eq_true rfl⟩, rfl, hts _ kw_940⟩ ⟨cn_blind, fun U hU hW => ⟨rfl, by rw [hU], by rw [hU]; exact hPc, va_K.moved hW.alike hK, hDc.weaken (fun _ _ _ _ => trivial), hN.warm hW⟩⟩ rfl rfl hl.1 rfl (lv_room (Nat.le_of_ble_eq_true rfl)) dX3_init_30 ⟨Nat.le_of_ble_eq_true rfl, Nat.le_of_ble_eq_true rfl⟩) hS (fun q _ h => hFc q h) hFc (fun u t H1 locs ht hvm hw hB hz1 hk1 hS => ?_)
  obtain ⟨q12, hP1, hK1, hD1⟩ := hB
  rw [ht] at hP1
  obtain ⟨hP, hD⟩ := va_join (wr := [(h0, .inr (2, [.ref q0, .int 0, .int 0])), (q0, .inl (aC 3, 8, .inr (.inr (.inr (.inr (va_up (va_up (va_up (va_up (va_up (fun _ => none) 0 (some q1)) 1 (some q3)) 2 (some q5)) 3 (some q7)) 4 (some q9))))))), (q1, .inr (0, [.int 3, .int 0, .ref q2, .int 0, .int 0, .int 1])), (q2, .inl (aC 0, 16, .inl fun _ => 0)), (q3, .inr (0, [.int 3, .int 0, .ref q4, .int 0, .int 0, .int 1])), (q4, .inl (aC 0, 16, .inl fun _ => 0)), (q5, .inr (0, [.int 3, .int 0, .ref q6, .int 0, .int 0, .int 1])), (q6, .inl (aC 0, 16, .inl fun _ => 0)), (q7, .inr (0, [.int 3, .int 0, .ref q8, .int 0, .int 0, .int 1])), (q8, .inl (aC 0, 16, .inl fun _ => 0)), (q9, .inr (0, [.int 3, .int 0, .ref q10, .int 0, .int 0, .int 1])), (q10, .inl (aC 0, 16, .inl fun _ => 0))]) (w1 := [(q11, .inr (0, [.int 3, .int 0, .ref q12, .int 0, .int 0, .int 1])), (q12, .inl (aC 0, 16, .inl fun _ => 0))]) hP hD [12] [0, 1, 2, 3, 4, 5, 6, 7, 8, 9, 10, 11] rfl rfl (by decide) (by decide) hk1 hFc hP1 hD1
  generalize H1 = H at hP hS ⊢
  have hP : va_P (dC, dI) vwCl [(h0, .inr (2, [.ref q0, .int 0, .int 0])), (q0, .inl (aC 3, 8, .inr (.inr (.inr (.inr (va_up (va_up (va_up (va_up (va_up (fun _ => none) 0 (some q1)) 1 (some q3)) 2 (some q5)) 3 (some q7)) 4 (some q9))))))), (q1, .inr (0, [.int 3, .int 0, .ref q2, .int 0, .int 0, .int 1])), (q2, .inl (aC 0, 16, .inl fun _ => 0)), (q3, .inr (0, [.int 3, .int 0, .ref q4, .int 0, .int 0, .int 1])), (q4, .inl (aC 0, 16, .inl fun _ => 0)), (q5, .inr (0, [.int 3, .int 0, .ref q6, .int 0, .int 0, .int 1])), (q6, .inl (aC 0, 16, .inl fun _ => 0)), (q7, .inr (0, [.int 3, .int 0, .ref q8, .int 0, .int 0, .int 1])), (q8, .inl (aC 0, 16, .inl fun _ => 0)), (q9, .inr (0, [.int 3, .int 0, .ref q10, .int 0, .int 0, .int 1])), (q10, .inl (aC 0, 16, .inl fun _ => 0)), (q11, .inr (0, [.int 3, .int 0, .ref q12, .int 0, .int 0, .int 1])), (q12, .inl (aC 0, 16, .inl fun _ => 0))] H := hP
  have hD : va_D A [(h0, .inr (2, [.ref q0, .int 0, .int 0])), (q0, .inl (aC 3, 8, .inr (.inr (.inr (.inr (va_up (va_up (va_up (va_up (va_up (fun _ => none) 0 (some q1)) 1 (some q3)) 2 (some q5)) 3 (some q7)) 4 (some q9))))))), (q1, .inr (0, [.int 3, .int 0, .ref q2, .int 0, .int 0, .int 1])), (q2, .inl (aC 0, 16, .inl fun _ => 0)), (q3, .inr (0, [.int 3, .int 0, .ref q4, .int 0, .int 0, .int 1])), (q4, .inl (aC 0, 16, .inl fun _ => 0)), (q5, .inr (0, [.int 3, .int 0, .ref q6, .int 0, .int 0, .int 1])), (q6, .inl (aC 0, 16, .inl fun _ => 0)), (q7, .inr (0, [.int 3, .int 0, .ref q8, .int 0, .int 0, .int 1])), (q8, .inl (aC 0, 16, .inl fun _ => 0)), (q9, .inr (0, [.int 3, .int 0, .ref q10, .int 0, .int 0, .int 1])), (q10, .inl (aC 0, 16, .inl fun _ => 0)), (q11, .inr (0, [.int 3, .int 0, .ref q12, .int 0, .int 0, .int 1])), (q12, .inl (aC 0, 16, .inl fun _ => 0))] := hD
  refine W.widen (k := 13) (n := 140) (Nat.le_of_ble_eq_true rfl) (Nat.le_of_ble_eq_true rfl) ?_
  refine va_astq hx hb hK hP hD hS 1 3 12 0 rfl rfl rfl rfl (by unfold vp_in; decide) dX3_init_33 (fun H locs hP hD hS => ?_)
  have hP : va_P (dC, dI) vwCl [(h0, .inr (2, [.ref q0, .int 0, .int 0])), (q0, .inl (aC 3, 8, .inr (.inr (.inr (.inr (va_up (va_up (va_up (va_up (va_up (va_up (fun _ => none) 0 (some q1)) 1 (some q3)) 2 (some q5)) 3 (some q7)) 4 (some q9)) 5 (some q11))))))), (q1, .inr (0, [.int 3, .int 0, .ref q2, .int 0, .int 0, .int 1])), (q2, .inl (aC 0, 16, .inl fun _ => 0)), (q3, .inr (0, [.int 3, .int 0, .ref q4, .int 0, .int 0, .int 1])), (q4, .inl (aC 0, 16, .inl fun _ => 0)), (q5, .inr (0, [.int 3, .int 0, .ref q6, .int 0, .int 0, .int 1])), (q6, .inl (aC 0, 16, .inl fun _ => 0)), (q7, .inr (0, [.int 3, .int 0, .ref q8, .int 0, .int 0, .int 1])), (q8, .inl (aC 0, 16, .inl fun _ => 0)), (q9, .inr (0, [.int 3, .int 0, .ref q10, .int 0, .int 0, .int 1])), (q10, .inl (aC 0, 16, .inl fun _ => 0)), (q11, .inr (0, [.int 3, .int 0, .ref q12, .int 0, .int 0, .int 1])), (q12, .inl (aC 0, 16, .inl fun _ => 0))] H := hP
  have hD : va_D A [(h0, .inr (2, [.ref q0, .int 0, .int 0])), (q0, .inl (aC 3, 8, .inr (.inr (.inr (.inr (va_up (va_up (va_up (va_up (va_up (va_up (fun _ => none) 0 (some q1)) 1 (some q3)) 2 (some q5)) 3 (some q7)) 4 (some q9)) 5 (some q11))))))), (q1, .inr (0, [.int 3, .int 0, .ref q2, .int 0, .int 0, .int 1])), (q2, .inl (aC 0, 16, .inl fun _ => 0)), (q3, .inr (0, [.int 3, .int 0, .ref q4, .int 0, .int 0, .int 1])), (q4, .inl (aC 0, 16, .inl fun _ => 0)), (q5, .inr (0, [.int 3, .int 0, .ref q6, .int 0, .int 0, .int 1])), (q6, .inl (aC 0, 16, .inl fun _ => 0)), (q7, .inr (0, [.int 3, .int 0, .ref q8, .int 0, .int 0, .int 1])), (q8, .inl (aC 0, 16, .inl fun _ => 0)), (q9, .inr (0, [.int 3, .int 0, .ref q10, .int 0, .int 0, .int 1])), (q10, .inl (aC 0, 16, .inl fun _ => 0)), (q11, .inr (0, [.int 3, .int 0, .ref q12, .int 0, .int 0, .int 1])), (q12, .inl (aC 0, 16, .inl fun _ => 0))] := hD
  refine lv_iinc (v := 6) (lv' := [(1, .int 6), (0, .ref h0)]) hx hb dX3_init_34 hl (k := 0) rfl (by decide) (by decide) rfl (fun ls hl => ?_)
  refine lv_goto (tgt := 15) hx hb dX3_init_37 (by decide) ?_
  refine lv_iload_n hx hb dX3_init_15 rfl (lv_at hl 0 rfl) ?_
  refine lv_bipush (v := 8) hx hb dX3_init_16 (by decide) ?_
  refine lv_icmp_ge (tgt := 40) hx hb dX3_init_18 (by decide) (fun hc => absurd hc (by decide)) (fun _ => ?_)
  refine lv_aload_n hx hb dX3_init_21 rfl (lv_at hl 1 rfl) ?_
  refine va_get (D := (dC, dI)) (ci := 2) (v := .ref q0) (C := RX3) (T := TX3) (N := 3) hx hb hts igX3 hown hK hP 0 rfl rfl 0 (by decide) (hts _ kw_125) (fun _ h9 => h9) rfl dX3_init_22 ?_
  refine lv_iload_n hx hb dX3_init_25 rfl (lv_at hl 0 rfl) ?_
  refine va_new (ci := 0) (fs := [.int 0, .int 0, .null, .int 0, .int 0, .int 0]) (C := RX0) (T := TX0) (N := 6) hx hb hts igX0 tyX0 tyX0_ok hown (hts _ kw_942) (hts _ kw_938) (hts _ kw_49) hK hP hD hS hA rfl (by decide) (Nat.le_of_ble_eq_true rfl) (Nat.le_of_ble_eq_true rfl) dX3_init_26 (fun q13 H hP hD hS => ?_)
  have hP : va_P (dC, dI) vwCl [(h0, .inr (2, [.ref q0, .int 0, .int 0])), (q0, .inl (aC 3, 8, .inr (.inr (.inr (.inr (va_up (va_up (va_up (va_up (va_up (va_up (fun _ => none) 0 (some q1)) 1 (some q3)) 2 (some q5)) 3 (some q7)) 4 (some q9)) 5 (some q11))))))), (q1, .inr (0, [.int 3, .int 0, .ref q2, .int 0, .int 0, .int 1])), (q2, .inl (aC 0, 16, .inl fun _ => 0)), (q3, .inr (0, [.int 3, .int 0, .ref q4, .int 0, .int 0, .int 1])), (q4, .inl (aC 0, 16, .inl fun _ => 0)), (q5, .inr (0, [.int 3, .int 0, .ref q6, .int 0, .int 0, .int 1])), (q6, .inl (aC 0, 16, .inl fun _ => 0)), (q7, .inr (0, [.int 3, .int 0, .ref q8, .int 0, .int 0, .int 1])), (q8, .inl (aC 0, 16, .inl fun _ => 0)), (q9, .inr (0, [.int 3, .int 0, .ref q10, .int 0, .int 0, .int 1])), (q10, .inl (aC 0, 16, .inl fun _ => 0)), (q11, .inr (0, [.int 3, .int 0, .ref q12, .int 0, .int 0, .int 1])), (q12, .inl (aC 0, 16, .inl fun _ => 0)), (q13, .inr (0, [.int 0, .int 0, .null, .int 0, .int 0, .int 0]))] H := hP
  have hD : va_D A [(h0, .inr (2, [.ref q0, .int 0, .int 0])), (q0, .inl (aC 3, 8, .inr (.inr (.inr (.inr (va_up (va_up (va_up (va_up (va_up (va_up (fun _ => none) 0 (some q1)) 1 (some q3)) 2 (some q5)) 3 (some q7)) 4 (some q9)) 5 (some q11))))))), (q1, .inr (0, [.int 3, .int 0, .ref q2, .int 0, .int 0, .int 1])), (q2, .inl (aC 0, 16, .inl fun _ => 0)), (q3, .inr (0, [.int 3, .int 0, .ref q4, .int 0, .int 0, .int 1])), (q4, .inl (aC 0, 16, .inl fun _ => 0)), (q5, .inr (0, [.int 3, .int 0, .ref q6, .int 0, .int 0, .int 1])), (q6, .inl (aC 0, 16, .inl fun _ => 0)), (q7, .inr (0, [.int 3, .int 0, .ref q8, .int 0, .int 0, .int 1])), (q8, .inl (aC 0, 16, .inl fun _ => 0)), (q9, .inr (0, [.int 3, .int 0, .ref q10, .int 0, .int 0, .int 1])), (q10, .inl (aC 0, 16, .inl fun _ => 0)), (q11, .inr (0, [.int 3, .int 0, .ref q12, .int 0, .int 0, .int 1])), (q12, .inl (aC 0, 16, .inl fun _ => 0)), (q13, .inr (0, [.int 0, .int 0, .null, .int 0, .int 0, .int 0]))] := hD
  refine W.widen (k := 14) (n := 146) (Nat.le_of_ble_eq_true rfl) (Nat.le_of_ble_eq_true rfl) ?_
  refine lv_dup hx hb dX3_init_29 rfl ?_
  have hPc := hP.sub (ws' := [(q13, .inr (0, [.int 0, .int 0, .null, .int 0, .int 0, .int 0]))]) [14] rfl
  have hDc := hD.sub (ws' := [(q13, .inr (0, [.int 0, .int 0, .null, .int 0, .int 0, .int 0]))]) [14] (by decide) rfl
  have hFc := va_free (wc := [(q13, .inr (0, [.int 0, .int 0, .null, .int 0, .int 0, .int 0]))]) hD hS hA [14] rfl
  refine va_callv (va_runIN (host := "MirrorWires") (As := []) (rest := [.ref q13, .int 6, .ref q0]) ⟨hx, hb, hml, hown, hts⟩ (cc_X0_init l dC dI aC q13 H.size) ⟨va_cnB 0 hts (aw_goodc kw_939) rfl rfl rfl hN.2.2.1 (hts _ kw_49) (by decide +kernel) ⟨Nat.le_of_ble_eq_true rfl, Nat.le_of_ble_eq_true rfl⟩, rfl, hts _ kw_940⟩ ⟨cn_blind, fun U hU hW => ⟨rfl, by rw [hU], by rw [hU]; exact hPc, va_K.moved hW.alike hK, hDc.weaken (fun _ _ _ _ => trivial), hN.warm hW⟩⟩ rfl rfl hl.1 rfl (lv_room (Nat.le_of_ble_eq_true rfl)) dX3_init_30 ⟨Nat.le_of_ble_eq_true rfl, Nat.le_of_ble_eq_true rfl⟩) hS (fun q _ h => hFc q h) hFc (fun u t H1 locs ht hvm hw hB hz1 hk1 hS => ?_)
  obtain ⟨q14, hP1, hK1, hD1⟩ := hB
  rw [ht] at hP1
  obtain ⟨hP, hD⟩ := va_join (wr := [(h0, .inr (2, [.ref q0, .int 0, .int 0])), (q0, .inl (aC 3, 8, .inr (.inr (.inr (.inr (va_up (va_up (va_up (va_up (va_up (va_up (fun _ => none) 0 (some q1)) 1 (some q3)) 2 (some q5)) 3 (some q7)) 4 (some q9)) 5 (some q11))))))), (q1, .inr (0, [.int 3, .int 0, .ref q2, .int 0, .int 0, .int 1])), (q2, .inl (aC 0, 16, .inl fun _ => 0)), (q3, .inr (0, [.int 3, .int 0, .ref q4, .int 0, .int 0, .int 1])), (q4, .inl (aC 0, 16, .inl fun _ => 0)), (q5, .inr (0, [.int 3, .int 0, .ref q6, .int 0, .int 0, .int 1])), (q6, .inl (aC 0, 16, .inl fun _ => 0)), (q7, .inr (0, [.int 3, .int 0, .ref q8, .int 0, .int 0, .int 1])), (q8, .inl (aC 0, 16, .inl fun _ => 0)), (q9, .inr (0, [.int 3, .int 0, .ref q10, .int 0, .int 0, .int 1])), (q10, .inl (aC 0, 16, .inl fun _ => 0)), (q11, .inr (0, [.int 3, .int 0, .ref q12, .int 0, .int 0, .int 1])), (q12, .inl (aC 0, 16, .inl fun _ => 0))]) (w1 := [(q13, .inr (0, [.int 3, .int 0, .ref q14, .int 0, .int 0, .int 1])), (q14, .inl (aC 0, 16, .inl fun _ => 0))]) hP hD [14] [0, 1, 2, 3, 4, 5, 6, 7, 8, 9, 10, 11, 12, 13] rfl rfl (by decide) (by decide) hk1 hFc hP1 hD1
  generalize H1 = H at hP hS ⊢
  have hP : va_P (dC, dI) vwCl [(h0, .inr (2, [.ref q0, .int 0, .int 0])), (q0, .inl (aC 3, 8, .inr (.inr (.inr (.inr (va_up (va_up (va_up (va_up (va_up (va_up (fun _ => none) 0 (some q1)) 1 (some q3)) 2 (some q5)) 3 (some q7)) 4 (some q9)) 5 (some q11))))))), (q1, .inr (0, [.int 3, .int 0, .ref q2, .int 0, .int 0, .int 1])), (q2, .inl (aC 0, 16, .inl fun _ => 0)), (q3, .inr (0, [.int 3, .int 0, .ref q4, .int 0, .int 0, .int 1])), (q4, .inl (aC 0, 16, .inl fun _ => 0)), (q5, .inr (0, [.int 3, .int 0, .ref q6, .int 0, .int 0, .int 1])), (q6, .inl (aC 0, 16, .inl fun _ => 0)), (q7, .inr (0, [.int 3, .int 0, .ref q8, .int 0, .int 0, .int 1])), (q8, .inl (aC 0, 16, .inl fun _ => 0)), (q9, .inr (0, [.int 3, .int 0, .ref q10, .int 0, .int 0, .int 1])), (q10, .inl (aC 0, 16, .inl fun _ => 0)), (q11, .inr (0, [.int 3, .int 0, .ref q12, .int 0, .int 0, .int 1])), (q12, .inl (aC 0, 16, .inl fun _ => 0)), (q13, .inr (0, [.int 3, .int 0, .ref q14, .int 0, .int 0, .int 1])), (q14, .inl (aC 0, 16, .inl fun _ => 0))] H := hP
  have hD : va_D A [(h0, .inr (2, [.ref q0, .int 0, .int 0])), (q0, .inl (aC 3, 8, .inr (.inr (.inr (.inr (va_up (va_up (va_up (va_up (va_up (va_up (fun _ => none) 0 (some q1)) 1 (some q3)) 2 (some q5)) 3 (some q7)) 4 (some q9)) 5 (some q11))))))), (q1, .inr (0, [.int 3, .int 0, .ref q2, .int 0, .int 0, .int 1])), (q2, .inl (aC 0, 16, .inl fun _ => 0)), (q3, .inr (0, [.int 3, .int 0, .ref q4, .int 0, .int 0, .int 1])), (q4, .inl (aC 0, 16, .inl fun _ => 0)), (q5, .inr (0, [.int 3, .int 0, .ref q6, .int 0, .int 0, .int 1])), (q6, .inl (aC 0, 16, .inl fun _ => 0)), (q7, .inr (0, [.int 3, .int 0, .ref q8, .int 0, .int 0, .int 1])), (q8, .inl (aC 0, 16, .inl fun _ => 0)), (q9, .inr (0, [.int 3, .int 0, .ref q10, .int 0, .int 0, .int 1])), (q10, .inl (aC 0, 16, .inl fun _ => 0)), (q11, .inr (0, [.int 3, .int 0, .ref q12, .int 0, .int 0, .int 1])), (q12, .inl (aC 0, 16, .inl fun _ => 0)), (q13, .inr (0, [.int 3, .int 0, .ref q14, .int 0, .int 0, .int 1])), (q14, .inl (aC 0, 16, .inl fun _ => 0))] := hD
  refine W.widen (k := 15) (n := 162) (Nat.le_of_ble_eq_true rfl) (Nat.le_of_ble_eq_true rfl) ?_
  refine va_astq hx hb hK hP hD hS 1 3 14 0 rfl rfl rfl rfl (by unfold vp_in; decide) dX3_init_33 (fun H locs hP hD hS => ?_)
  have hP : va_P (dC, dI) vwCl [(h0, .inr (2, [.ref q0, .int 0, .int 0])), (q0, .inl (aC 3, 8, .inr (.inr (.inr (.inr (va_up (va_up (va_up (va_up (va_up (va_up (va_up (fun _ => none) 0 (some q1)) 1 (some q3)) 2 (some q5)) 3 (some q7)) 4 (some q9)) 5 (some q11)) 6 (some q13))))))), (q1, .inr (0, [.int 3, .int 0, .ref q2, .int 0, .int 0, .int 1])), (q2, .inl (aC 0, 16, .inl fun _ => 0)), (q3, .inr (0, [.int 3, .int 0, .ref q4, .int 0, .int 0, .int 1])), (q4, .inl (aC 0, 16, .inl fun _ => 0)), (q5, .inr (0, [.int 3, .int 0, .ref q6, .int 0, .int 0, .int 1])), (q6, .inl (aC 0, 16, .inl fun _ => 0)), (q7, .inr (0, [.int 3, .int 0, .ref q8, .int 0, .int 0, .int 1])), (q8, .inl (aC 0, 16, .inl fun _ => 0)), (q9, .inr (0, [.int 3, .int 0, .ref q10, .int 0, .int 0, .int 1])), (q10, .inl (aC 0, 16, .inl fun _ => 0)), (q11, .inr (0, [.int 3, .int 0, .ref q12, .int 0, .int 0, .int 1])), (q12, .inl (aC 0, 16, .inl fun _ => 0)), (q13, .inr (0, [.int 3, .int 0, .ref q14, .int 0, .int 0, .int 1])), (q14, .inl (aC 0, 16, .inl fun _ => 0))] H := hP
  have hD : va_D A [(h0, .inr (2, [.ref q0, .int 0, .int 0])), (q0, .inl (aC 3, 8, .inr (.inr (.inr (.inr (va_up (va_up (va_up (va_up (va_up (va_up (va_up (fun _ => none) 0 (some q1)) 1 (some q3)) 2 (some q5)) 3 (some q7)) 4 (some q9)) 5 (some q11)) 6 (some q13))))))), (q1, .inr (0, [.int 3, .int 0, .ref q2, .int 0, .int 0, .int 1])), (q2, .inl (aC 0, 16, .inl fun _ => 0)), (q3, .inr (0, [.int 3, .int 0, .ref q4, .int 0, .int 0, .int 1])), (q4, .inl (aC 0, 16, .inl fun _ => 0)), (q5, .inr (0, [.int 3, .int 0, .ref q6, .int 0, .int 0, .int 1])), (q6, .inl (aC 0, 16, .inl fun _ => 0)), (q7, .inr (0, [.int 3, .int 0, .ref q8, .int 0, .int 0, .int 1])), (q8, .inl (aC 0, 16, .inl fun _ => 0)), (q9, .inr (0, [.int 3, .int 0, .ref q10, .int 0, .int 0, .int 1])), (q10, .inl (aC 0, 16, .inl fun _ => 0)), (q11, .inr (0, [.int 3, .int 0, .ref q12, .int 0, .int 0, .int 1])), (q12, .inl (aC 0, 16, .inl fun _ => 0)), (q13, .inr (0, [.int 3, .int 0, .ref q14, .int 0, .int 0, .int 1])), (q14, .inl (aC 0, 16, .inl fun _ => 0))] := hD
  refine lv_iinc (v := 7) (lv' := [(1, .int 7), (0, .ref h0)]) hx hb dX3_init_34 hl (k := 0) rfl (by decide) (by decide) rfl (fun ls hl => ?_)
  refine lv_goto (tgt := 15) hx hb dX3_init_37 (by decide) ?_
  refine lv_iload_n hx hb dX3_init_15 rfl (lv_at hl 0 rfl) ?_
  refine lv_bipush (v := 8) hx hb dX3_init_16 (by decide) ?_
  refine lv_icmp_ge (tgt := 40) hx hb dX3_init_18 (by decide) (fun hc => absurd hc (by decide)) (fun _ => ?_)
  refine lv_aload_n hx hb dX3_init_21 rfl (lv_at hl 1 rfl) ?_
  refine va_get (D := (dC, dI)) (ci := 2) (v := .ref q0) (C := RX3) (T := TX3) (N := 3) hx hb hts igX3 hown hK hP 0 rfl rfl 0 (by decide) (hts _ kw_125) (fun _ h9 => h9) rfl dX3_init_22 ?_
  refine lv_iload_n hx hb dX3_init_25 rfl (lv_at hl 0 rfl) ?_
  refine va_new (ci := 0) (fs := [.int 0, .int 0, .null, .int 0, .int 0, .int 0]) (C := RX0) (T := TX0) (N := 6) hx hb hts igX0 tyX0 tyX0_ok hown (hts _ kw_942) (hts _ kw_938) (hts _ kw_49) hK hP hD hS hA rfl (by decide) (Nat.le_of_ble_eq_true rfl) (Nat.le_of_ble_eq_true rfl) dX3_init_26 (fun q15 H hP hD hS => ?_)
  have hP : va_P (dC, dI) vwCl [(h0, .inr (2, [.ref q0, .int 0, .int 0])), (q0, .inl (aC 3, 8, .inr (.inr (.inr (.inr (va_up (va_up (va_up (va_up (va_up (va_up (va_up (fun _ => none) 0 (some q1)) 1 (some q3)) 2 (some q5)) 3 (some q7)) 4 (some q9)) 5 (some q11)) 6 (some q13))))))), (q1, .inr (0, [.int 3, .int 0, .ref q2, .int 0, .int 0, .int 1])), (q2, .inl (aC 0, 16, .inl fun _ => 0)), (q3, .inr (0, [.int 3, .int 0, .ref q4, .int 0, .int 0, .int 1])), (q4, .inl (aC 0, 16, .inl fun _ => 0)), (q5, .inr (0, [.int 3, .int 0, .ref q6, .int 0, .int 0, .int 1])), (q6, .inl (aC 0, 16, .inl fun _ => 0)), (q7, .inr (0, [.int 3, .int 0, .ref q8, .int 0, .int 0, .int 1])), (q8, .inl (aC 0, 16, .inl fun _ => 0)), (q9, .inr (0, [.int 3, .int 0, .ref q10, .int 0, .int 0, .int 1])), (q10, .inl (aC 0, 16, .inl fun _ => 0)), (q11, .inr (0, [.int 3, .int 0, .ref q12, .int 0, .int 0, .int 1])), (q12, .inl (aC 0, 16, .inl fun _ => 0)), (q13, .inr (0, [.int 3, .int 0, .ref q14, .int 0, .int 0, .int 1])), (q14, .inl (aC 0, 16, .inl fun _ => 0)), (q15, .inr (0, [.int 0, .int 0, .null, .int 0, .int 0, .int 0]))] H := hP
  have hD : va_D A [(h0, .inr (2, [.ref q0, .int 0, .int 0])), (q0, .inl (aC 3, 8, .inr (.inr (.inr (.inr (va_up (va_up (va_up (va_up (va_up (va_up (va_up (fun _ => none) 0 (some q1)) 1 (some q3)) 2 (some q5)) 3 (some q7)) 4 (some q9)) 5 (some q11)) 6 (some q13))))))), (q1, .inr (0, [.int 3, .int 0, .ref q2, .int 0, .int 0, .int 1])), (q2, .inl (aC 0, 16, .inl fun _ => 0)), (q3, .inr (0, [.int 3, .int 0, .ref q4, .int 0, .int 0, .int 1])), (q4, .inl (aC 0, 16, .inl fun _ => 0)), (q5, .inr (0, [.int 3, .int 0, .ref q6, .int 0, .int 0, .int 1])), (q6, .inl (aC 0, 16, .inl fun _ => 0)), (q7, .inr (0, [.int 3, .int 0, .ref q8, .int 0, .int 0, .int 1])), (q8, .inl (aC 0, 16, .inl fun _ => 0)), (q9, .inr (0, [.int 3, .int 0, .ref q10, .int 0, .int 0, .int 1])), (q10, .inl (aC 0, 16, .inl fun _ => 0)), (q11, .inr (0, [.int 3, .int 0, .ref q12, .int 0, .int 0, .int 1])), (q12, .inl (aC 0, 16, .inl fun _ => 0)), (q13, .inr (0, [.int 3, .int 0, .ref q14, .int 0, .int 0, .int 1])), (q14, .inl (aC 0, 16, .inl fun _ => 0)), (q15, .inr (0, [.int 0, .int 0, .null, .int 0, .int 0, .int 0]))] := hD
  refine W.widen (k := 16) (n := 168) (Nat.le_of_ble_eq_true rfl) (Nat.le_of_ble_eq_true rfl) ?_
  refine lv_dup hx hb dX3_init_29 rfl ?_
  have hPc := hP.sub (ws' := [(q15, .inr (0, [.int 0, .int 0, .null, .int 0, .int 0, .int 0]))]) [16] rfl
  have hDc := hD.sub (ws' := [(q15, .inr (0, [.int 0, .int 0, .null, .int 0, .int 0, .int 0]))]) [16] (by decide) rfl
  have hFc := va_free (wc := [(q15, .inr (0, [.int 0, .int 0, .null, .int 0, .int 0, .int 0]))]) hD hS hA [16] rfl
  refine va_callv (va_runIN (host := "MirrorWires") (As := []) (rest := [.ref q15, .int 7, .ref q0]) ⟨hx, hb, hml, hown, hts⟩ (cc_X0_init l dC dI aC q15 H.size) ⟨va_cnB 0 hts (aw_goodc kw_939) rfl rfl rfl hN.2.2.1 (hts _ kw_49) (by decide +kernel) ⟨Nat.le_of_ble_eq_true rfl, Nat.le_of_ble_eq_true rfl⟩, rfl, hts _ kw_940⟩ ⟨cn_blind, fun U hU hW => ⟨rfl, by rw [hU], by rw [hU]; exact hPc, va_K.moved hW.alike hK, hDc.weaken (fun _ _ _ _ => trivial), hN.warm hW⟩⟩ rfl rfl hl.1 rfl (lv_room (Nat.le_of_ble_eq_true rfl)) dX3_init_30 ⟨Nat.le_of_ble_eq_true rfl, Nat.le_of_ble_eq_true rfl⟩) hS (fun q _ h => hFc q h) hFc (fun u t H1 locs ht hvm hw hB hz1 hk1 hS => ?_)
  obtain ⟨q16, hP1, hK1, hD1⟩ := hB
  rw [ht] at hP1
  obtain ⟨hP, hD⟩ := va_join (wr := [(h0, .inr (2, [.ref q0, .int 0, .int 0])), (q0, .inl (aC 3, 8, .inr (.inr (.inr (.inr (va_up (va_up (va_up (va_up (va_up (va_up (va_up (fun _ => none) 0 (some q1)) 1 (some q3)) 2 (some q5)) 3 (some q7)) 4 (some q9)) 5 (some q11)) 6 (some q13))))))), (q1, .inr (0, [.int 3, .int 0, .ref q2, .int 0, .int 0, .int 1])), (q2, .inl (aC 0, 16, .inl fun _ => 0)), (q3, .inr (0, [.int 3, .int 0, .ref q4, .int 0, .int 0, .int 1])), (q4, .inl (aC 0, 16, .inl fun _ => 0)), (q5, .inr (0, [.int 3, .int 0, .ref q6, .int 0, .int 0, .int 1])), (q6, .inl (aC 0, 16, .inl fun _ => 0)), (q7, .inr (0, [.int 3, .int 0, .ref q8, .int 0, .int 0, .int 1])), (q8, .inl (aC 0, 16, .inl fun _ => 0)), (q9, .inr (0, [.int 3, .int 0, .ref q10, .int 0, .int 0, .int 1])), (q10, .inl (aC 0, 16, .inl fun _ => 0)), (q11, .inr (0, [.int 3, .int 0, .ref q12, .int 0, .int 0, .int 1])), (q12, .inl (aC 0, 16, .inl fun _ => 0)), (q13, .inr (0, [.int 3, .int 0, .ref q14, .int 0, .int 0, .int 1])), (q14, .inl (aC 0, 16, .inl fun _ => 0))]) (w1 := [(q15, .inr (0, [.int 3, .int 0, .ref q16, .int 0, .int 0, .int 1])), (q16, .inl (aC 0, 16, .inl fun _ => 0))]) hP hD [16] [0, 1, 2, 3, 4, 5, 6, 7, 8, 9, 10, 11, 12, 13, 14, 15] rfl rfl (by decide) (by decide) hk1 hFc hP1 hD1
  generalize H1 = H at hP hS ⊢
  have hP : va_P (dC, dI) vwCl [(h0, .inr (2, [.ref q0, .int 0, .int 0])), (q0, .inl (aC 3, 8, .inr (.inr (.inr (.inr (va_up (va_up (va_up (va_up (va_up (va_up (va_up (fun _ => none) 0 (some q1)) 1 (some q3)) 2 (some q5)) 3 (some q7)) 4 (some q9)) 5 (some q11)) 6 (some q13))))))), (q1, .inr (0, [.int 3, .int 0, .ref q2, .int 0, .int 0, .int 1])), (q2, .inl (aC 0, 16, .inl fun _ => 0)), (q3, .inr (0, [.int 3, .int 0, .ref q4, .int 0, .int 0, .int 1])), (q4, .inl (aC 0, 16, .inl fun _ => 0)), (q5, .inr (0, [.int 3, .int 0, .ref q6, .int 0, .int 0, .int 1])), (q6, .inl (aC 0, 16, .inl fun _ => 0)), (q7, .inr (0, [.int 3, .int 0, .ref q8, .int 0, .int 0, .int 1])), (q8, .inl (aC 0, 16, .inl fun _ => 0)), (q9, .inr (0, [.int 3, .int 0, .ref q10, .int 0, .int 0, .int 1])), (q10, .inl (aC 0, 16, .inl fun _ => 0)), (q11, .inr (0, [.int 3, .int 0, .ref q12, .int 0, .int 0, .int 1])), (q12, .inl (aC 0, 16, .inl fun _ => 0)), (q13, .inr (0, [.int 3, .int 0, .ref q14, .int 0, .int 0, .int 1])), (q14, .inl (aC 0, 16, .inl fun _ => 0)), (q15, .inr (0, [.int 3, .int 0, .ref q16, .int 0, .int 0, .int 1])), (q16, .inl (aC 0, 16, .inl fun _ => 0))] H := hP
  have hD : va_D A [(h0, .inr (2, [.ref q0, .int 0, .int 0])), (q0, .inl (aC 3, 8, .inr (.inr (.inr (.inr (va_up (va_up (va_up (va_up (va_up (va_up (va_up (fun _ => none) 0 (some q1)) 1 (some q3)) 2 (some q5)) 3 (some q7)) 4 (some q9)) 5 (some q11)) 6 (some q13))))))), (q1, .inr (0, [.int 3, .int 0, .ref q2, .int 0, .int 0, .int 1])), (q2, .inl (aC 0, 16, .inl fun _ => 0)), (q3, .inr (0, [.int 3, .int 0, .ref q4, .int 0, .int 0, .int 1])), (q4, .inl (aC 0, 16, .inl fun _ => 0)), (q5, .inr (0, [.int 3, .int 0, .ref q6, .int 0, .int 0, .int 1])), (q6, .inl (aC 0, 16, .inl fun _ => 0)), (q7, .inr (0, [.int 3, .int 0, .ref q8, .int 0, .int 0, .int 1])), (q8, .inl (aC 0, 16, .inl fun _ => 0)), (q9, .inr (0, [.int 3, .int 0, .ref q10, .int 0, .int 0, .int 1])), (q10, .inl (aC 0, 16, .inl fun _ => 0)), (q11, .inr (0, [.int 3, .int 0, .ref q12, .int 0, .int 0, .int 1])), (q12, .inl (aC 0, 16, .inl fun _ => 0)), (q13, .inr (0, [.int 3, .int 0, .ref q14, .int 0, .int 0, .int 1])), (q14, .inl (aC 0, 16, .inl fun _ => 0)), (q15, .inr (0, [.int 3, .int 0, .ref q16, .int 0, .int 0, .int 1])), (q16, .inl (aC 0, 16, .inl fun _ => 0))] := hD
  refine W.widen (k := 17) (n := 184) (Nat.le_of_ble_eq_true rfl) (Nat.le_of_ble_eq_true rfl) ?_
  refine va_astq hx hb hK hP hD hS 1 3 16 0 rfl rfl rfl rfl (by unfold vp_in; decide) dX3_init_33 (fun H locs hP hD hS => ?_)
  have hP : va_P (dC, dI) vwCl [(h0, .inr (2, [.ref q0, .int 0, .int 0])), (q0, .inl (aC 3, 8, .inr (.inr (.inr (.inr (va_up (va_up (va_up (va_up (va_up (va_up (va_up (va_up (fun _ => none) 0 (some q1)) 1 (some q3)) 2 (some q5)) 3 (some q7)) 4 (some q9)) 5 (some q11)) 6 (some q13)) 7 (some q15))))))), (q1, .inr (0, [.int 3, .int 0, .ref q2, .int 0, .int 0, .int 1])), (q2, .inl (aC 0, 16, .inl fun _ => 0)), (q3, .inr (0, [.int 3, .int 0, .ref q4, .int 0, .int 0, .int 1])), (q4, .inl (aC 0, 16, .inl fun _ => 0)), (q5, .inr (0, [.int 3, .int 0, .ref q6, .int 0, .int 0, .int 1])), (q6, .inl (aC 0, 16, .inl fun _ => 0)), (q7, .inr (0, [.int 3, .int 0, .ref q8, .int 0, .int 0, .int 1])), (q8, .inl (aC 0, 16, .inl fun _ => 0)), (q9, .inr (0, [.int 3, .int 0, .ref q10, .int 0, .int 0, .int 1])), (q10, .inl (aC 0, 16, .inl fun _ => 0)), (q11, .inr (0, [.int 3, .int 0, .ref q12, .int 0, .int 0, .int 1])), (q12, .inl (aC 0, 16, .inl fun _ => 0)), (q13, .inr (0, [.int 3, .int 0, .ref q14, .int 0, .int 0, .int 1])), (q14, .inl (aC 0, 16, .inl fun _ => 0)), (q15, .inr (0, [.int 3, .int 0, .ref q16, .int 0, .int 0, .int 1])), (q16, .inl (aC 0, 16, .inl fun _ => 0))] H := hP
  have hD : va_D A [(h0, .inr (2, [.ref q0, .int 0, .int 0])), (q0, .inl (aC 3, 8, .inr (.inr (.inr (.inr (va_up (va_up (va_up (va_up (va_up (va_up (va_up (va_up (fun _ => none) 0 (some q1)) 1 (some q3)) 2 (some q5)) 3 (some q7)) 4 (some q9)) 5 (some q11)) 6 (some q13)) 7 (some q15))))))), (q1, .inr (0, [.int 3, .int 0, .ref q2, .int 0, .int 0, .int 1])), (q2, .inl (aC 0, 16, .inl fun _ => 0)), (q3, .inr (0, [.int 3, .int 0, .ref q4, .int 0, .int 0, .int 1])), (q4, .inl (aC 0, 16, .inl fun _ => 0)), (q5, .inr (0, [.int 3, .int 0, .ref q6, .int 0, .int 0, .int 1])), (q6, .inl (aC 0, 16, .inl fun _ => 0)), (q7, .inr (0, [.int 3, .int 0, .ref q8, .int 0, .int 0, .int 1])), (q8, .inl (aC 0, 16, .inl fun _ => 0)), (q9, .inr (0, [.int 3, .int 0, .ref q10, .int 0, .int 0, .int 1])), (q10, .inl (aC 0, 16, .inl fun _ => 0)), (q11, .inr (0, [.int 3, .int 0, .ref q12, .int 0, .int 0, .int 1])), (q12, .inl (aC 0, 16, .inl fun _ => 0)), (q13, .inr (0, [.int 3, .int 0, .ref q14, .int 0, .int 0, .int 1])), (q14, .inl (aC 0, 16, .inl fun _ => 0)), (q15, .inr (0, [.int 3, .int 0, .ref q16, .int 0, .int 0, .int 1])), (q16, .inl (aC 0, 16, .inl fun _ => 0))] := hD
  refine lv_iinc (v := 8) (lv' := [(1, .int 8), (0, .ref h0)]) hx hb dX3_init_34 hl (k := 0) rfl (by decide) (by decide) rfl (fun ls hl => ?_)
  refine lv_goto (tgt := 15) hx hb dX3_init_37 (by decide) ?_
  refine lv_iload_n hx hb dX3_init_15 rfl (lv_at hl 0 rfl) ?_
  refine lv_bipush (v := 8) hx hb dX3_init_16 (by decide) ?_
  refine lv_icmp_ge (tgt := 40) hx hb dX3_init_18 (by decide) (fun _ => ?_) (fun hc => absurd (by decide) hc)
  exact W.vret hx hb hr (fun t ht hW => ⟨⟨(), rfl, trivial, q0, q1, q2, q3, q4, q5, q6, q7, q8, q9, q10, q11, q12, q13, q14, q15, q16, by rw [ht]; exact hP, va_K.moved hW.alike hK, hD⟩, hS.F ht⟩) hS.2.2 dX3_init_40
