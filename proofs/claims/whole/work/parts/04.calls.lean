/-! CONTRACTS: a method by what it does to the abstract world -/
def aw_r (d : Nat) : Room := { frames := d, cells := 0, slots := 0, locals := 40 * d }
def aw_Pc (E : aw_F) (as : List Value) (h : aw_H) : Array Value → State → Prop := fun v U => v = (as.map (aw_v E.2.2.2.1)).toArray ∧ aw_W E h U.heap ∧ va_K E.2.1 vwCl (aw_t E.2.2.1) U
def aw_Qc (E : aw_F) (Q0 : aw_R) : Array Value → State → Outcome → State → Prop := fun _ st oc t => (∃ (r : Option Value) (h' : aw_H), oc = .returned (r.map (aw_v E.2.2.2.1)) ∧ Q0 r h' ∧ aw_W E h' t.heap) ∧ va_F E.2.2.2.2 st t
def CT (E : aw_F) (y : MethodName) (bytes : ByteArray) (maxL : Nat) (ret : Option FieldType) (d : Nat) (G : aw_T) : Prop := ∀ (as : List Value) (h : aw_H) (Q0 : aw_R), G as h Q0 → Met E.1 y (.code y bytes maxL ret :: lw_g) (aw_r d) (aw_Pc E as h) (aw_Qc E Q0) 0 0 E.2.2.2.2
/-- what a call of a method needs, beside its link -/
def CS (E : aw_F) (y : MethodName) (bytes : ByteArray) (maxL : Nat) (ret : Option FieldType) (d n : Nat) (G : aw_T) : Prop := CT E y bytes maxL ret d G ∧ maxL ≤ 21 ∧ Cond.static y ∈ lw_g ∧ Cond.initialized y.cls ∈ lw_g ∧ Cond.code y bytes maxL ret ∈ lw_g ∧ (y.cls ≠ "java/lang/invoke/MethodHandle" ∧ y.cls ≠ "java/lang/invoke/VarHandle" ∧ (parseMethodDescriptor y.desc).map (fun d => d.parameters.length) = some n)
def CV (E : aw_F) (y : MethodName) (bytes : ByteArray) (maxL : Nat) (ret : Option FieldType) (d n ci : Nat) (G : aw_T) : Prop := CT E y bytes maxL ret d G ∧ maxL ≤ 21 ∧ Cond.instanceMethod y ∈ lw_g ∧ Cond.selects y.cls y y ∈ lw_g ∧ Cond.initialized y.cls ∈ lw_g ∧ Cond.code y bytes maxL ret ∈ lw_g ∧ (y.cls ≠ "java/lang/invoke/MethodHandle" ∧ y.cls ≠ "java/lang/invoke/VarHandle" ∧ (parseMethodDescriptor y.desc).map (fun d => d.parameters.length) = some n) ∧ ∃ T N, vwCl[ci]? = some (y.cls, T, N)
theorem aw_blind (E : aw_F) (as : List Value) (h : aw_H) : FrameBlind (aw_Pc E as h) := fun a U g mk q => ⟨q.1, q.2.1, va_K.moved (u := U) (U := U.calling g mk a) (Vm.Alike.refl U.vm) q.2.2⟩
theorem aw_goodc {w : Cond} (hw : w ∈ lw_g) : GoodIn lw_g (w :: lw_g) := fun w' h => by
  rcases List.mem_cons.mp h with rfl | h
  · exact lw_goodIn _ hw
  · exact lw_goodIn _ h
theorem aw_catsum (ad : Nat → Nat) (st : List Value) : ((st.map (aw_v ad)).map fun v => v.category).sum = (st.map fun v => v.category).sum := by
  rw [List.map_map, show ((fun v : Value => v.category) ∘ aw_v ad) = fun v => v.category from funext (fun v => aw_v_cat _ v)]
theorem ow_run {E : aw_F} {p : Program} {e : Env} {R : Room} {s : State} {m : MethodId} {args a : Array Value} {below : List Frame} {meth : Method} {c : Code} {H : Heap} {locs : List Loc} {kc ks pc : Nat} {Q : State → Prop} {ls : Array Slot} {st0 rest : List Value} {K : aw_R}
    (hr : va_Run p E.1 e R s m args below meth c H locs kc ks 0 0 (F0 m pc ls st0) rest (aw_Qc E K a) E.2.2.2.2) (hS : va_S E.2.2.2.2 s.heap H locs)
    (kk : ∀ (r : Option Value) (h' : aw_H) (H1 : Heap) (locs1 : List Loc), K r h' → aw_W E h' H1 → va_S E.2.2.2.2 s.heap H1 locs1 → W p E.1 e R s m args below meth c H1 locs1 kc ks Q (F0 m (pc + 3) ls ((r.map (aw_v E.2.2.2.1)).toList ++ rest))) : W p E.1 e R s m args below meth c H locs kc ks Q (F0 m pc ls st0) := by
  intro T hT X
  obtain ⟨v, st₀, t, T', L, h0, X', hL, e1, e2, ⟨⟨r, h', hv, hk, hw⟩, hz, hkp⟩, st⟩ := hr T hT X
  injection hv with hv
  subst hv
  rw [h0] at hz hkp
  obtain ⟨t2, a1, b1⟩ := kk r h' T'.heap (locs ++ L) hk (by rw [e1]; exact hw)
    ⟨Nat.le_trans hS.1 (by rw [e1]; exact hz), fun q h1 h2 => by rw [e1, hkp q (Nat.lt_of_lt_of_le h1 hS.1) h2]; exact hS.2.1 q h1 h2, fun q hq => by
      rcases List.mem_append.mp hq with h | h
      · exact hS.2.2 q h
      · exact hL q h⟩ T' rfl X'
  exact ⟨t2, st t2 a1, b1⟩
section CALLS
variable {X : aw_X} {cc : ByteArray} {own : String} {nL d pc : Nat} {L st : List Value} {h : aw_H}
theorem ow_callS {y : MethodName} {bytes : ByteArray} {maxL d' n idx : Nat} {ret : Option FieldType} {G : aw_T} {as st0 : List Value} {K : aw_R} (C : aw_C X cc own nL d) (ct : CS X.1 y bytes maxL ret d' n G) (hd' : d' + 1 ≤ d) (w1 : Cond.methodLink own idx y ∈ lw_g) (hdg : decode cc pc = .ok (.invokestatic idx, 3)) (hn : as.length = n) (hst : st0 = as.reverse ++ st) (hr : (st.map fun v => v.category).sum ≤ 8) (hh : G as h K)
    (kk : ∀ (r : Option Value) (h' : aw_H), K r h' → Sat X (pc + 3) L (r.toList ++ st) h') : Sat X pc L st0 h := by
  obtain ⟨E, pg, ev, R, s, m, args, below, meth, c, kc, ks, Q⟩ := X
  obtain ⟨hx, hb, hml, hown, hts, hK, hfr, hlo, hkc, hks⟩ := C
  obtain ⟨ct, hm, w2, w3, w4, hy⟩ := ct
  intro ls H locs a b z
  subst hst
  refine ow_run (K := K) (a := (as.map (aw_v E.2.2.2.1)).toArray) (rest := st.map (aw_v E.2.2.2.1)) (va_runS (As := as.map (aw_v E.2.2.2.1)) (nL := nL) (Ts := lw_g) (n := n) (bytes := bytes) (maxL := maxL) (ret := ret) ⟨hx, hb, hml, hown, hts⟩ (ct as h K hh) ⟨callB_of n hts (aw_goodc w4) rfl rfl rfl (hts _ w3) (hts _ w1) hy ⟨Nat.le_trans hd' hfr, by show 8 + (maxL + 11) + 40 * d' ≤ _; omega⟩, hts _ w2⟩ ⟨aw_blind E as h, fun U hU hW => ⟨rfl, by rw [hU]; exact b, va_K.moved hW.alike hK⟩⟩ rfl (by rw [List.length_map]; exact hn) (by rw [← hml]; exact a.1) (by show List.map _ _ = _; rw [List.map_append, List.map_reverse]) (lv_room (by rw [aw_catsum]; exact hr)) hdg ⟨hkc, hks⟩) z (fun r h' H1 locs1 q1 q2 q3 => ?_)
  have := kk r h' q1 ls H1 locs1 a q2 q3
  rw [List.map_append] at this
  cases r <;> exact this
theorem ow_callV {y : MethodName} {bytes : ByteArray} {maxL d' n idx ci p : Nat} {ret : Option FieldType} {G : aw_T} {as st0 : List Value} {K : aw_R} (C : aw_C X cc own nL d) (ct : CV X.1 y bytes maxL ret d' n ci G) (hd' : d' + 1 ≤ d) (w1 : Cond.methodLink own idx y ∈ lw_g) (hdg : decode cc pc = .ok (.invokevirtual idx, 3)) (hn : as.length = n) (hst : st0 = as.reverse ++ .ref p :: st) (hr : (st.map fun v => v.category).sum ≤ 8) (hh : sv_O h p ci (G (.ref p :: as) h K))
    (kk : ∀ (r : Option Value) (h' : aw_H), K r h' → Sat X (pc + 3) L (r.toList ++ st) h') : Sat X pc L st0 h := by
  obtain ⟨E, pg, ev, R, s, m, args, below, meth, c, kc, ks, Q⟩ := X
  obtain ⟨hx, hb, hml, hown, hts, hK, hfr, hlo, hkc, hks⟩ := C
  obtain ⟨ct, hm, w2, w5, w3, w4, hy, T, N, hc⟩ := ct
  obtain ⟨⟨fs, hp⟩, hh⟩ := sv_O_e hh
  intro ls H locs a b z
  subst hst
  refine ow_run (K := K) (a := ((Value.ref p :: as).map (aw_v E.2.2.2.1)).toArray) (rest := st.map (aw_v E.2.2.2.1)) (va_runV (C := y.cls) (b := E.2.2.2.1 p) (As := as.map (aw_v E.2.2.2.1)) (nL := nL) (Ts := lw_g) (n := n) (bytes := bytes) (maxL := maxL) (ret := ret) ⟨hx, hb, hml, hown, hts⟩ (ct (.ref p :: as) h K hh) ⟨callB_of n hts (aw_goodc w4) rfl rfl rfl (hts _ w3) (hts _ w1) hy ⟨Nat.le_trans hd' hfr, by show 8 + (maxL + 11) + 40 * d' ≤ _; omega⟩, hts _ w2, hts _ w5⟩ ⟨aw_blind E _ h, va_recv hK b.1 hc (aw_w_get hp), fun U hU hW => ⟨rfl, by rw [hU]; exact b, va_K.moved hW.alike hK⟩⟩ rfl (by rw [List.length_map]; exact hn) (by rw [← hml]; exact a.1) (by show List.map _ _ = _; rw [List.map_append, List.map_reverse]; rfl) (lv_room (by rw [aw_catsum]; exact hr)) hdg ⟨hkc, hks⟩) z (fun r h' H1 locs1 q1 q2 q3 => ?_)
  have := kk r h' q1 ls H1 locs1 a q2 q3
  rw [List.map_append] at this
  cases r <;> exact this
theorem ow_iret {Q0 : aw_R} {v : Int32} {ret : Option FieldType} (Z : aw_Z X cc ret Q0) (hd : decode cc pc = .ok (.ireturn, 1)) (hok : aw_ok ret (some (.int v))) (hh : Q0 (some (.int v)) h) : Sat X pc L [.int v] h := by
  obtain ⟨E, pg, ev, R, s, m, args, below, meth, c, kc, ks, Q⟩ := X
  intro ls H locs a b z
  exact Z pc ls H locs (some (.int v)) h hok hd b z hh
theorem ow_lret {Q0 : aw_R} {v : Int64} {ret : Option FieldType} (Z : aw_Z X cc ret Q0) (hd : decode cc pc = .ok (.lreturn, 1)) (hok : aw_ok ret (some (.long v))) (hh : Q0 (some (.long v)) h) : Sat X pc L [.long v] h := by
  obtain ⟨E, pg, ev, R, s, m, args, below, meth, c, kc, ks, Q⟩ := X
  intro ls H locs a b z
  exact Z pc ls H locs (some (.long v)) h hok hd b z hh
theorem ow_vret {Q0 : aw_R} {ret : Option FieldType} (Z : aw_Z X cc ret Q0) (hd : decode cc pc = .ok (.return_, 1)) (hok : aw_ok ret none) (hh : Q0 none h) : Sat X pc L [] h := by
  obtain ⟨E, pg, ev, R, s, m, args, below, meth, c, kc, ks, Q⟩ := X
  intro ls H locs a b z
  exact Z pc ls H locs none h hok hd b z hh
end CALLS
theorem ct_of {E : aw_F} {y : MethodName} {bytes : ByteArray} {maxL d : Nat} {ret : Option FieldType} {G : aw_T} (hy : plainName y.cls = true)
    (body : ∀ (X : aw_X) (Q0 : aw_R) (as : List Value) (h : aw_H), X.1 = E → aw_C X bytes y.cls maxL d → aw_Z X bytes ret Q0 → G as h Q0 → ∃ L : List Value, aw_l E.2.2.2.1 0 L = lv_args 0 (as.map (aw_v E.2.2.2.1)) ∧ (lg_sl (as.map (aw_v E.2.2.2.1))).length ≤ maxL ∧ Sat X 0 L [] h) : CT E y bytes maxL ret d G := by
  intro as h Q0 hG
  refine Met.ofW (cc := bytes) (maxL := maxL) (ret := ret) hy rfl ?_
  intro p e s m args below meth c s₁ B hml hv
  obtain ⟨rfl, hW, hK⟩ := hv
  have hx := B.exec
  have hb := B.bytes
  have hr := B.returns
  have hts := atoms_spec (ws := .code y bytes maxL ret :: lw_g) B.pre
  have hown : s.vm.findClass y.cls = some m.cls := findClass_of_methodNamed B.named
  have hlocks := B.notSynchronized
  obtain ⟨L, hL, hl, hs⟩ := body (E, p, e, aw_r d, s, m, (as.map (aw_v E.2.2.2.1)).toArray, below, meth, c, 0, 0, MQ below (aw_Qc E Q0) (as.map (aw_v E.2.2.2.1)).toArray s 0 0 E.2.2.2.2) Q0 as h rfl ⟨hx, hb, hml, hown, fun w hw => hts w (List.mem_cons_of_mem _ hw), hK, Nat.le_refl _, Nat.le_refl _, Nat.zero_le _, Nat.zero_le _⟩ (by
      intro pc ls H locs r h' hok hd hw hS hq
      have hf : ∀ q ∈ locs, E.2.2.2.2 q.base := hS.2.2
      cases r with
      | none =>
        cases ret with
        | none => exact W.vret hx hb hr (fun t ht _ => ⟨⟨none, h', rfl, hq, by rw [ht]; exact hw⟩, hS.F ht⟩) hf hd
        | some ty => cases ty <;> exact hok.elim
      | some v =>
        cases v with
        | int v =>
          cases ret with
          | none => exact hok.elim
          | some ty =>
            cases ty with
            | int => exact W.iret hx hb hr (fun t ht _ => ⟨⟨some (.int v), h', rfl, hq, by rw [ht]; exact hw⟩, hS.F ht⟩) hf hd
            | boolean => exact W.zret hx hb hr (by rcases (hok : v = 0 ∨ v = 1) with q | q <;> (rw [q]; rfl)) (fun t ht _ => ⟨⟨some (.int v), h', rfl, hq, by rw [ht]; exact hw⟩, hS.F ht⟩) hf hd
            | _ => exact hok.elim
        | long v =>
          cases ret with
          | none => exact hok.elim
          | some ty =>
            cases ty with
            | long => exact W.lret hx hb hr (fun t ht _ => ⟨⟨some (.long v), h', rfl, hq, by rw [ht]; exact hw⟩, hS.F ht⟩) hf hd
            | _ => exact hok.elim
        | _ => exact hd.elim) hG
  rw [lg_entry_eq]
  have hl2 := lv_entry (as.map (aw_v E.2.2.2.1)) hl
  exact hs _ _ _ (by rw [hL, hml]; exact hl2) hW va_S.rf
