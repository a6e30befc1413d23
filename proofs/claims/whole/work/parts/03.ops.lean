/-! ONE INSTRUCTION, A ROW: over the abstract world -/
def sg_I (h : aw_H) (p ci k : Nat) (K : Int32 → Prop) : Prop := match h[p]? with
  | some (.inr (c, fs)) => c = ci ∧ (match fs[k]? with
    | some (.int v) => K v
    | _ => False)
  | _ => False
def sg_R (h : aw_H) (p ci k : Nat) (K : Nat → Prop) : Prop := match h[p]? with
  | some (.inr (c, fs)) => c = ci ∧ (match fs[k]? with
    | some (.ref v) => K v
    | _ => False)
  | _ => False
def sp_I (h : aw_H) (p ci k : Nat) (v : Int32) (K : aw_H → Prop) : Prop := match h[p]? with
  | some (.inr (c, fs)) => c = ci ∧ k < fs.length ∧ K (h.set p (.inr (ci, fs.set k (.int v))))
  | _ => False
def sa_I (h : aw_H) (p : Nat) (i : Int32) (K : Int32 → Prop) : Prop := match h[p]? with
  | some (.inl (t, n, .inl f)) => t = 0 ∧ vp_in i n ∧ K (f i.toNatClampNeg)
  | _ => False
def sa_C (h : aw_H) (p : Nat) (i : Int32) (K : Int32 → Prop) : Prop := match h[p]? with
  | some (.inl (t, n, .inl f)) => t = 2 ∧ vp_in i n ∧ K (f i.toNatClampNeg)
  | _ => False
def sa_L (h : aw_H) (p : Nat) (i : Int32) (K : Int64 → Prop) : Prop := match h[p]? with
  | some (.inl (t, n, .inr (.inl f))) => t = 1 ∧ vp_in i n ∧ K (f i.toNatClampNeg)
  | _ => False
def sa_R (h : aw_H) (t0 : Nat) (p : Nat) (i : Int32) (K : Nat → Prop) : Prop := match h[p]? with
  | some (.inl (t, n, .inr (.inr (.inr (.inr f))))) => t = t0 ∧ vp_in i n ∧ (match f i.toNatClampNeg with
    | some q => K q
    | none => False)
  | _ => False
def sa_N (h : aw_H) (p : Nat) (K : Int32 → Prop) : Prop := match h[p]? with
  | some (.inl (t, n, _)) => t < 5 ∧ K (Int32.ofNat n)
  | _ => False
def ss_I (h : aw_H) (p : Nat) (i x : Int32) (K : aw_H → Prop) : Prop := match h[p]? with
  | some (.inl (t, n, .inl f)) => t = 0 ∧ vp_in i n ∧ K (h.set p (.inl (0, n, .inl (upd f i.toNatClampNeg x))))
  | _ => False
def ss_C (h : aw_H) (p : Nat) (i x : Int32) (K : aw_H → Prop) : Prop := match h[p]? with
  | some (.inl (t, n, .inl f)) => t = 2 ∧ vp_in i n ∧ K (h.set p (.inl (2, n, .inl (upd f i.toNatClampNeg (vp_nar .char x)))))
  | _ => False
def ss_L (h : aw_H) (p : Nat) (i : Int32) (x : Int64) (K : aw_H → Prop) : Prop := match h[p]? with
  | some (.inl (t, n, .inr (.inl f))) => t = 1 ∧ vp_in i n ∧ K (h.set p (.inl (1, n, .inr (.inl (vp_updL f i.toNatClampNeg x)))))
  | _ => False
def sc_I (h : aw_H) (ps : Nat) (sp : Int32) (pd : Nat) (dp n : Int32) (K : aw_H → Prop) : Prop := match h[ps]?, h[pd]? with
  | some (.inl (t0, n0, .inl f)), some (.inl (t1, n1, .inl g)) => t0 = 0 ∧ t1 = 0 ∧ ¬ sp < 0 ∧ ¬ dp < 0 ∧ ¬ n < 0 ∧ sp.toNatClampNeg + n.toNatClampNeg ≤ n0 ∧ dp.toNatClampNeg + n.toNatClampNeg ≤ n1 ∧ K (h.set pd (.inl (0, n1, .inl (va_cpy f g sp.toNatClampNeg dp.toNatClampNeg n.toNatClampNeg))))
  | _, _ => False
def sc_L (h : aw_H) (ps : Nat) (sp : Int32) (pd : Nat) (dp n : Int32) (K : aw_H → Prop) : Prop := match h[ps]?, h[pd]? with
  | some (.inl (t0, n0, .inr (.inl f))), some (.inl (t1, n1, .inr (.inl g))) => t0 = 1 ∧ t1 = 1 ∧ ¬ sp < 0 ∧ ¬ dp < 0 ∧ ¬ n < 0 ∧ sp.toNatClampNeg + n.toNatClampNeg ≤ n0 ∧ dp.toNatClampNeg + n.toNatClampNeg ≤ n1 ∧ K (h.set pd (.inl (1, n1, .inr (.inl (va_cpy f g sp.toNatClampNeg dp.toNatClampNeg n.toNatClampNeg)))))
  | _, _ => False
/-- an object of a class stands there -/
def sv_O (h : aw_H) (p ci : Nat) (A : Prop) : Prop := match h[p]? with
  | some (.inr (c, _)) => c = ci ∧ A
  | _ => False
def sr_I (r : Option Value) (K : Int32 → Prop) : Prop := match r with
  | some (.int v) => K v
  | _ => False
def sr_L (r : Option Value) (K : Int64 → Prop) : Prop := match r with
  | some (.long v) => K v
  | _ => False
def sr_V (r : Option Value) (K : Prop) : Prop := match r with
  | none => K
  | _ => False
theorem sg_I_e {h : aw_H} {p ci k : Nat} {K : Int32 → Prop} (hh : sg_I h p ci k K) : ∃ fs v, h[p]? = some (.inr (ci, fs)) ∧ fs[k]? = some (.int v) ∧ K v := by
  unfold sg_I at hh
  split at hh
  · rename_i c fs hp
    obtain ⟨rfl, hh⟩ := hh
    split at hh
    · rename_i v hv
      exact ⟨fs, v, hp, hv, hh⟩
    · exact hh.elim
  · exact hh.elim
theorem sg_R_e {h : aw_H} {p ci k : Nat} {K : Nat → Prop} (hh : sg_R h p ci k K) : ∃ fs v, h[p]? = some (.inr (ci, fs)) ∧ fs[k]? = some (.ref v) ∧ K v := by
  unfold sg_R at hh
  split at hh
  · rename_i c fs hp
    obtain ⟨rfl, hh⟩ := hh
    split at hh
    · rename_i v hv
      exact ⟨fs, v, hp, hv, hh⟩
    · exact hh.elim
  · exact hh.elim
theorem sp_I_e {h : aw_H} {p ci k : Nat} {v : Int32} {K : aw_H → Prop} (hh : sp_I h p ci k v K) : ∃ fs, h[p]? = some (.inr (ci, fs)) ∧ k < fs.length ∧ K (h.set p (.inr (ci, fs.set k (.int v)))) := by
  unfold sp_I at hh
  split at hh
  · rename_i c fs hp
    obtain ⟨rfl, hh⟩ := hh
    exact ⟨fs, hp, hh.1, hh.2⟩
  · exact hh.elim
theorem sa_I_e {h : aw_H} {p : Nat} {i : Int32} {K : Int32 → Prop} (hh : sa_I h p i K) : ∃ n f, h[p]? = some (.inl (0, n, .inl f)) ∧ vp_in i n ∧ K (f i.toNatClampNeg) := by
  unfold sa_I at hh
  split at hh
  · rename_i t n f hp
    obtain ⟨rfl, h1, h2⟩ := hh
    exact ⟨n, f, hp, h1, h2⟩
  · exact hh.elim
theorem sa_C_e {h : aw_H} {p : Nat} {i : Int32} {K : Int32 → Prop} (hh : sa_C h p i K) : ∃ n f, h[p]? = some (.inl (2, n, .inl f)) ∧ vp_in i n ∧ K (f i.toNatClampNeg) := by
  unfold sa_C at hh
  split at hh
  · rename_i t n f hp
    obtain ⟨rfl, h1, h2⟩ := hh
    exact ⟨n, f, hp, h1, h2⟩
  · exact hh.elim
theorem sa_L_e {h : aw_H} {p : Nat} {i : Int32} {K : Int64 → Prop} (hh : sa_L h p i K) : ∃ n f, h[p]? = some (.inl (1, n, .inr (.inl f))) ∧ vp_in i n ∧ K (f i.toNatClampNeg) := by
  unfold sa_L at hh
  split at hh
  · rename_i t n f hp
    obtain ⟨rfl, h1, h2⟩ := hh
    exact ⟨n, f, hp, h1, h2⟩
  · exact hh.elim
theorem sa_R_e {h : aw_H} {t0 p : Nat} {i : Int32} {K : Nat → Prop} (hh : sa_R h t0 p i K) : ∃ n f q, h[p]? = some (.inl (t0, n, .inr (.inr (.inr (.inr f))))) ∧ vp_in i n ∧ f i.toNatClampNeg = some q ∧ K q := by
  unfold sa_R at hh
  split at hh
  · rename_i t n f hp
    obtain ⟨rfl, h1, h2⟩ := hh
    split at h2
    · rename_i q hq
      exact ⟨n, f, q, hp, h1, hq, h2⟩
    · exact h2.elim
  · exact hh.elim
theorem sa_N_e {h : aw_H} {p : Nat} {K : Int32 → Prop} (hh : sa_N h p K) : ∃ t n x, h[p]? = some (.inl (t, n, x)) ∧ t < 5 ∧ K (Int32.ofNat n) := by
  unfold sa_N at hh
  split at hh
  · rename_i t n x hp
    exact ⟨t, n, x, hp, hh.1, hh.2⟩
  · exact hh.elim
theorem ss_I_e {h : aw_H} {p : Nat} {i x : Int32} {K : aw_H → Prop} (hh : ss_I h p i x K) : ∃ n f, h[p]? = some (.inl (0, n, .inl f)) ∧ vp_in i n ∧ K (h.set p (.inl (0, n, .inl (upd f i.toNatClampNeg x)))) := by
  unfold ss_I at hh
  split at hh
  · rename_i t n f hp
    obtain ⟨rfl, h1, h2⟩ := hh
    exact ⟨n, f, hp, h1, h2⟩
  · exact hh.elim
theorem ss_C_e {h : aw_H} {p : Nat} {i x : Int32} {K : aw_H → Prop} (hh : ss_C h p i x K) : ∃ n f, h[p]? = some (.inl (2, n, .inl f)) ∧ vp_in i n ∧ K (h.set p (.inl (2, n, .inl (upd f i.toNatClampNeg (vp_nar .char x))))) := by
  unfold ss_C at hh
  split at hh
  · rename_i t n f hp
    obtain ⟨rfl, h1, h2⟩ := hh
    exact ⟨n, f, hp, h1, h2⟩
  · exact hh.elim
theorem ss_L_e {h : aw_H} {p : Nat} {i : Int32} {x : Int64} {K : aw_H → Prop} (hh : ss_L h p i x K) : ∃ n f, h[p]? = some (.inl (1, n, .inr (.inl f))) ∧ vp_in i n ∧ K (h.set p (.inl (1, n, .inr (.inl (vp_updL f i.toNatClampNeg x))))) := by
  unfold ss_L at hh
  split at hh
  · rename_i t n f hp
    obtain ⟨rfl, h1, h2⟩ := hh
    exact ⟨n, f, hp, h1, h2⟩
  · exact hh.elim
theorem sv_O_e {h : aw_H} {p ci : Nat} {A : Prop} (hh : sv_O h p ci A) : (∃ fs, h[p]? = some (.inr (ci, fs))) ∧ A := by
  unfold sv_O at hh
  split at hh
  · rename_i c fs hp
    obtain ⟨rfl, h1⟩ := hh
    exact ⟨⟨fs, hp⟩, h1⟩
  · exact hh.elim
theorem sr_I_e {r : Option Value} {K : Int32 → Prop} (hh : sr_I r K) : ∃ v, r = some (.int v) ∧ K v := by
  unfold sr_I at hh
  split at hh
  · exact ⟨_, rfl, hh⟩
  · exact hh.elim
theorem sr_L_e {r : Option Value} {K : Int64 → Prop} (hh : sr_L r K) : ∃ v, r = some (.long v) ∧ K v := by
  unfold sr_L at hh
  split at hh
  · exact ⟨_, rfl, hh⟩
  · exact hh.elim
theorem sr_V_e {r : Option Value} {K : Prop} (hh : sr_V r K) : r = none ∧ K := by
  unfold sr_V at hh
  split at hh
  · exact ⟨rfl, hh⟩
  · exact hh.elim
theorem if_e {c : Prop} [Decidable c] {A B : Prop} (hh : if c then A else B) : (c ∧ A) ∨ (¬ c ∧ B) := by
  split at hh
  · rename_i hc
    exact Or.inl ⟨hc, hh⟩
  · rename_i hc
    exact Or.inr ⟨hc, hh⟩
theorem if_y {c : Prop} [Decidable c] {A B : Prop} (hc : c) (hh : if c then A else B) : A := by rwa [if_pos hc] at hh
theorem if_n {c : Prop} [Decidable c] {A B : Prop} (hc : ¬ c) (hh : if c then A else B) : B := by rwa [if_neg hc] at hh
theorem aw_at {ad : Nat → Nat} {ls : Array Slot} {nL i : Nat} {L : List Value} {v : Value} (a : lv_has ls nL (aw_l ad 0 L)) (hl : L[i]? = some v) (hv : v ≠ .null) : ls[i]? = some (.val (aw_v ad v)) :=
  a.2.2 (i, aw_v ad v) (aw_l_mem.mpr ⟨i, v, hl, hv, by rw [Nat.zero_add]⟩)
section OPS
variable {X : aw_X} {cc : ByteArray} {own : String} {nL d pc : Nat} {L st : List Value} {h : aw_H}
theorem ow_iconst (C : aw_C X cc own nL d) {n : Int} {v : Int32} (hd : decode cc pc = .ok (.iconst n, 1)) (hv : Int32.ofInt n = v) (k : Sat X (pc + 1) L (.int v :: st) h) : Sat X pc L (st) h := by
  obtain ⟨E, pg, ev, R, s, m, args, below, meth, c, kc, ks, Q⟩ := X
  obtain ⟨hx, hb, hml, hown, hts, hK, hfr, hlo, hkc, hks⟩ := C
  intro ls H locs a b z
  exact lv_iconst hx hb hd hv (k ls H locs a b z)
theorem ow_bipush (C : aw_C X cc own nL d) {n : Int} {v : Int32} (hd : decode cc pc = .ok (.bipush n, 2)) (hv : (Int8.ofInt n).toInt32 = v) (k : Sat X (pc + 2) L (.int v :: st) h) : Sat X pc L (st) h := by
  obtain ⟨E, pg, ev, R, s, m, args, below, meth, c, kc, ks, Q⟩ := X
  obtain ⟨hx, hb, hml, hown, hts, hK, hfr, hlo, hkc, hks⟩ := C
  intro ls H locs a b z
  exact lv_bipush hx hb hd hv (k ls H locs a b z)
theorem ow_sipush (C : aw_C X cc own nL d) {n : Int} {v : Int32} (hd : decode cc pc = .ok (.sipush n, 3)) (hv : (Int16.ofInt n).toInt32 = v) (k : Sat X (pc + 3) L (.int v :: st) h) : Sat X pc L (st) h := by
  obtain ⟨E, pg, ev, R, s, m, args, below, meth, c, kc, ks, Q⟩ := X
  obtain ⟨hx, hb, hml, hown, hts, hK, hfr, hlo, hkc, hks⟩ := C
  intro ls H locs a b z
  exact lv_sipush hx hb hd hv (k ls H locs a b z)
theorem ow_lconst (C : aw_C X cc own nL d) {n : Fin 2} {v : Int64} (hd : decode cc pc = .ok (.lconst n, 1)) (hv : Int64.ofNat (n : Nat) = v) (k : Sat X (pc + 1) L (.long v :: st) h) : Sat X pc L (st) h := by
  obtain ⟨E, pg, ev, R, s, m, args, below, meth, c, kc, ks, Q⟩ := X
  obtain ⟨hx, hb, hml, hown, hts, hK, hfr, hlo, hkc, hks⟩ := C
  intro ls H locs a b z
  exact lv_lconst hx hb hd hv (k ls H locs a b z)
theorem ow_iload_n (C : aw_C X cc own nL d) {k0 : Fin 4} {i : Nat} {x : Int32} (hd : decode cc pc = .ok (.iload_n k0, 1)) (hi : (k0 : Nat) = i) (hl : L[i]? = some (.int x)) (k : Sat X (pc + 1) L (.int x :: st) h) : Sat X pc L (st) h := by
  obtain ⟨E, pg, ev, R, s, m, args, below, meth, c, kc, ks, Q⟩ := X
  obtain ⟨hx, hb, hml, hown, hts, hK, hfr, hlo, hkc, hks⟩ := C
  intro ls H locs a b z
  exact lv_iload_n hx hb hd hi (aw_at a hl (fun q => by cases q)) (k ls H locs a b z)
theorem ow_iload (C : aw_C X cc own nL d) {i : Nat} {x : Int32} (hd : decode cc pc = .ok (.iload i, 2)) (hl : L[i]? = some (.int x)) (k : Sat X (pc + 2) L (.int x :: st) h) : Sat X pc L (st) h := by
  obtain ⟨E, pg, ev, R, s, m, args, below, meth, c, kc, ks, Q⟩ := X
  obtain ⟨hx, hb, hml, hown, hts, hK, hfr, hlo, hkc, hks⟩ := C
  intro ls H locs a b z
  exact lv_iload hx hb hd (aw_at a hl (fun q => by cases q)) (k ls H locs a b z)
theorem ow_lload_n (C : aw_C X cc own nL d) {k0 : Fin 4} {i : Nat} {x : Int64} (hd : decode cc pc = .ok (.lload_n k0, 1)) (hi : (k0 : Nat) = i) (hl : L[i]? = some (.long x)) (k : Sat X (pc + 1) L (.long x :: st) h) : Sat X pc L (st) h := by
  obtain ⟨E, pg, ev, R, s, m, args, below, meth, c, kc, ks, Q⟩ := X
  obtain ⟨hx, hb, hml, hown, hts, hK, hfr, hlo, hkc, hks⟩ := C
  intro ls H locs a b z
  exact lv_lload_n hx hb hd hi (aw_at a hl (fun q => by cases q)) (k ls H locs a b z)
theorem ow_lload (C : aw_C X cc own nL d) {i : Nat} {x : Int64} (hd : decode cc pc = .ok (.lload i, 2)) (hl : L[i]? = some (.long x)) (k : Sat X (pc + 2) L (.long x :: st) h) : Sat X pc L (st) h := by
  obtain ⟨E, pg, ev, R, s, m, args, below, meth, c, kc, ks, Q⟩ := X
  obtain ⟨hx, hb, hml, hown, hts, hK, hfr, hlo, hkc, hks⟩ := C
  intro ls H locs a b z
  exact lv_lload hx hb hd (aw_at a hl (fun q => by cases q)) (k ls H locs a b z)
theorem ow_aload_n (C : aw_C X cc own nL d) {k0 : Fin 4} {i : Nat} {x : Nat} (hd : decode cc pc = .ok (.aload_n k0, 1)) (hi : (k0 : Nat) = i) (hl : L[i]? = some (.ref x)) (k : Sat X (pc + 1) L (.ref x :: st) h) : Sat X pc L (st) h := by
  obtain ⟨E, pg, ev, R, s, m, args, below, meth, c, kc, ks, Q⟩ := X
  obtain ⟨hx, hb, hml, hown, hts, hK, hfr, hlo, hkc, hks⟩ := C
  intro ls H locs a b z
  exact lv_aload_n hx hb hd hi (aw_at a hl (fun q => by cases q)) (k ls H locs a b z)
theorem ow_aload (C : aw_C X cc own nL d) {i : Nat} {x : Nat} (hd : decode cc pc = .ok (.aload i, 2)) (hl : L[i]? = some (.ref x)) (k : Sat X (pc + 2) L (.ref x :: st) h) : Sat X pc L (st) h := by
  obtain ⟨E, pg, ev, R, s, m, args, below, meth, c, kc, ks, Q⟩ := X
  obtain ⟨hx, hb, hml, hown, hts, hK, hfr, hlo, hkc, hks⟩ := C
  intro ls H locs a b z
  exact lv_aload hx hb hd (aw_at a hl (fun q => by cases q)) (k ls H locs a b z)
theorem ow_istore_n (C : aw_C X cc own nL d) {k0 : Fin 4} {i : Nat} {x : Int32} {L' : List Value} (hd : decode cc pc = .ok (.istore_n k0, 1)) (hi : (k0 : Nat) = i) (hn : i < nL) (hL : aw_s L i (.int x) = L') (k : Sat X (pc + 1) L' st h) : Sat X pc L (.int x :: st) h := by
  obtain ⟨E, pg, ev, R, s, m, args, below, meth, c, kc, ks, Q⟩ := X
  obtain ⟨hx, hb, hml, hown, hts, hK, hfr, hlo, hkc, hks⟩ := C
  intro ls H locs a b z
  subst hL
  exact lv_istore_n hx hb hd hi a (by rw [hml]; exact hn) rfl (fun ls' hl' => k ls' H locs (aw_s_has (w := .int x) hl') b z)
theorem ow_istore (C : aw_C X cc own nL d) {i : Nat} {x : Int32} {L' : List Value} (hd : decode cc pc = .ok (.istore i, 2)) (hn : i < nL) (hL : aw_s L i (.int x) = L') (k : Sat X (pc + 2) L' st h) : Sat X pc L (.int x :: st) h := by
  obtain ⟨E, pg, ev, R, s, m, args, below, meth, c, kc, ks, Q⟩ := X
  obtain ⟨hx, hb, hml, hown, hts, hK, hfr, hlo, hkc, hks⟩ := C
  intro ls H locs a b z
  subst hL
  exact lv_istore hx hb hd a (by rw [hml]; exact hn) rfl (fun ls' hl' => k ls' H locs (aw_s_has (w := .int x) hl') b z)
theorem ow_astore_n (C : aw_C X cc own nL d) {k0 : Fin 4} {i : Nat} {x : Nat} {L' : List Value} (hd : decode cc pc = .ok (.astore_n k0, 1)) (hi : (k0 : Nat) = i) (hn : i < nL) (hL : aw_s L i (.ref x) = L') (k : Sat X (pc + 1) L' st h) : Sat X pc L (.ref x :: st) h := by
  obtain ⟨E, pg, ev, R, s, m, args, below, meth, c, kc, ks, Q⟩ := X
  obtain ⟨hx, hb, hml, hown, hts, hK, hfr, hlo, hkc, hks⟩ := C
  intro ls H locs a b z
  subst hL
  exact lv_astore_n hx hb hd hi a (by rw [hml]; exact hn) rfl (fun ls' hl' => k ls' H locs (aw_s_has (w := .ref x) hl') b z)
theorem ow_astore (C : aw_C X cc own nL d) {i : Nat} {x : Nat} {L' : List Value} (hd : decode cc pc = .ok (.astore i, 2)) (hn : i < nL) (hL : aw_s L i (.ref x) = L') (k : Sat X (pc + 2) L' st h) : Sat X pc L (.ref x :: st) h := by
  obtain ⟨E, pg, ev, R, s, m, args, below, meth, c, kc, ks, Q⟩ := X
  obtain ⟨hx, hb, hml, hown, hts, hK, hfr, hlo, hkc, hks⟩ := C
  intro ls H locs a b z
  subst hL
  exact lv_astore hx hb hd a (by rw [hml]; exact hn) rfl (fun ls' hl' => k ls' H locs (aw_s_has (w := .ref x) hl') b z)
theorem ow_lstore_n (C : aw_C X cc own nL d) {k0 : Fin 4} {i : Nat} {x : Int64} {L' : List Value} (hd : decode cc pc = .ok (.lstore_n k0, 1)) (hi : (k0 : Nat) = i) (hn : i + 1 < nL) (hL : aw_s2 L i (.long x) = L') (k : Sat X (pc + 1) L' st h) : Sat X pc L (.long x :: st) h := by
  obtain ⟨E, pg, ev, R, s, m, args, below, meth, c, kc, ks, Q⟩ := X
  obtain ⟨hx, hb, hml, hown, hts, hK, hfr, hlo, hkc, hks⟩ := C
  intro ls H locs a b z
  subst hL
  exact lv_lstore_n hx hb hd hi a (by rw [hml]; exact hn) rfl (fun ls' hl' => k ls' H locs (aw_s2_has (w := .long x) hl') b z)
theorem ow_lstore (C : aw_C X cc own nL d) {i : Nat} {x : Int64} {L' : List Value} (hd : decode cc pc = .ok (.lstore i, 2)) (hn : i + 1 < nL) (hL : aw_s2 L i (.long x) = L') (k : Sat X (pc + 2) L' st h) : Sat X pc L (.long x :: st) h := by
  obtain ⟨E, pg, ev, R, s, m, args, below, meth, c, kc, ks, Q⟩ := X
  obtain ⟨hx, hb, hml, hown, hts, hK, hfr, hlo, hkc, hks⟩ := C
  intro ls H locs a b z
  subst hL
  exact lv_lstore hx hb hd a (by rw [hml]; exact hn) rfl (fun ls' hl' => k ls' H locs (aw_s2_has (w := .long x) hl') b z)
theorem ow_iinc (C : aw_C X cc own nL d) {i : Nat} {n : Int} {x v : Int32} {L' : List Value} (hd : decode cc pc = .ok (.iinc i n, 3)) (hl : L[i]? = some (.int x)) (hv : x + Int32.ofInt n = v) (hn : i < nL) (hL : aw_s L i (.int v) = L') (k : Sat X (pc + 3) L' st h) : Sat X pc L st h := by
  obtain ⟨E, pg, ev, R, s, m, args, below, meth, c, kc, ks, Q⟩ := X
  obtain ⟨hx, hb, hml, hown, hts, hK, hfr, hlo, hkc, hks⟩ := C
  intro ls H locs a b z
  subst hL
  obtain ⟨k0, hk0⟩ := List.getElem?_of_mem (aw_l_mem.mpr ⟨i, .int x, hl, (fun q => by cases q), rfl⟩ : (0 + i, aw_v E.2.2.2.1 (.int x)) ∈ aw_l E.2.2.2.1 0 L)
  rw [Nat.zero_add] at hk0
  exact lv_iinc hx hb hd a hk0 hv (by rw [hml]; exact hn) rfl (fun ls' hl' => k ls' H locs (aw_s_has (w := .int v) hl') b z)
theorem ow_iadd (C : aw_C X cc own nL d) {x y : Int32} (hd : decode cc pc = .ok (.iadd, 1))  (k : Sat X (pc + 1) L (.int (x + y) :: st) h) : Sat X pc L (.int y :: .int x :: st) h := by
  obtain ⟨E, pg, ev, R, s, m, args, below, meth, c, kc, ks, Q⟩ := X
  obtain ⟨hx, hb, hml, hown, hts, hK, hfr, hlo, hkc, hks⟩ := C
  intro ls H locs a b z
  exact lv_iadd hx hb hd  (k ls H locs a b z)
theorem ow_isub (C : aw_C X cc own nL d) {x y : Int32} (hd : decode cc pc = .ok (.isub, 1))  (k : Sat X (pc + 1) L (.int (x - y) :: st) h) : Sat X pc L (.int y :: .int x :: st) h := by
  obtain ⟨E, pg, ev, R, s, m, args, below, meth, c, kc, ks, Q⟩ := X
  obtain ⟨hx, hb, hml, hown, hts, hK, hfr, hlo, hkc, hks⟩ := C
  intro ls H locs a b z
  exact lv_isub hx hb hd  (k ls H locs a b z)
theorem ow_imul (C : aw_C X cc own nL d) {x y : Int32} (hd : decode cc pc = .ok (.imul, 1))  (k : Sat X (pc + 1) L (.int (x * y) :: st) h) : Sat X pc L (.int y :: .int x :: st) h := by
  obtain ⟨E, pg, ev, R, s, m, args, below, meth, c, kc, ks, Q⟩ := X
  obtain ⟨hx, hb, hml, hown, hts, hK, hfr, hlo, hkc, hks⟩ := C
  intro ls H locs a b z
  exact lv_imul hx hb hd  (k ls H locs a b z)
theorem ow_iand (C : aw_C X cc own nL d) {x y : Int32} (hd : decode cc pc = .ok (.iand, 1))  (k : Sat X (pc + 1) L (.int (x &&& y) :: st) h) : Sat X pc L (.int y :: .int x :: st) h := by
  obtain ⟨E, pg, ev, R, s, m, args, below, meth, c, kc, ks, Q⟩ := X
  obtain ⟨hx, hb, hml, hown, hts, hK, hfr, hlo, hkc, hks⟩ := C
  intro ls H locs a b z
  exact lv_iand hx hb hd  (k ls H locs a b z)
theorem ow_ior (C : aw_C X cc own nL d) {x y : Int32} (hd : decode cc pc = .ok (.ior, 1))  (k : Sat X (pc + 1) L (.int (x ||| y) :: st) h) : Sat X pc L (.int y :: .int x :: st) h := by
  obtain ⟨E, pg, ev, R, s, m, args, below, meth, c, kc, ks, Q⟩ := X
  obtain ⟨hx, hb, hml, hown, hts, hK, hfr, hlo, hkc, hks⟩ := C
  intro ls H locs a b z
  exact lv_ior hx hb hd  (k ls H locs a b z)
theorem ow_ixor (C : aw_C X cc own nL d) {x y : Int32} (hd : decode cc pc = .ok (.ixor, 1))  (k : Sat X (pc + 1) L (.int (x ^^^ y) :: st) h) : Sat X pc L (.int y :: .int x :: st) h := by
  obtain ⟨E, pg, ev, R, s, m, args, below, meth, c, kc, ks, Q⟩ := X
  obtain ⟨hx, hb, hml, hown, hts, hK, hfr, hlo, hkc, hks⟩ := C
  intro ls H locs a b z
  exact lv_ixor hx hb hd  (k ls H locs a b z)
theorem ow_ishl (C : aw_C X cc own nL d) {x y : Int32} (hd : decode cc pc = .ok (.ishl, 1))  (k : Sat X (pc + 1) L (.int (x <<< (y &&& 31)) :: st) h) : Sat X pc L (.int y :: .int x :: st) h := by
  obtain ⟨E, pg, ev, R, s, m, args, below, meth, c, kc, ks, Q⟩ := X
  obtain ⟨hx, hb, hml, hown, hts, hK, hfr, hlo, hkc, hks⟩ := C
  intro ls H locs a b z
  exact lv_ishl hx hb hd  (k ls H locs a b z)
theorem ow_ishr (C : aw_C X cc own nL d) {x y : Int32} (hd : decode cc pc = .ok (.ishr, 1))  (k : Sat X (pc + 1) L (.int (x >>> (y &&& 31)) :: st) h) : Sat X pc L (.int y :: .int x :: st) h := by
  obtain ⟨E, pg, ev, R, s, m, args, below, meth, c, kc, ks, Q⟩ := X
  obtain ⟨hx, hb, hml, hown, hts, hK, hfr, hlo, hkc, hks⟩ := C
  intro ls H locs a b z
  exact lv_ishr hx hb hd  (k ls H locs a b z)
theorem ow_iushr (C : aw_C X cc own nL d) {x y : Int32} (hd : decode cc pc = .ok (.iushr, 1))  (k : Sat X (pc + 1) L (.int ((x.toUInt32 >>> (y.toUInt32 &&& Int32.toUInt32 31)).toInt32) :: st) h) : Sat X pc L (.int y :: .int x :: st) h := by
  obtain ⟨E, pg, ev, R, s, m, args, below, meth, c, kc, ks, Q⟩ := X
  obtain ⟨hx, hb, hml, hown, hts, hK, hfr, hlo, hkc, hks⟩ := C
  intro ls H locs a b z
  exact lv_iushr hx hb hd rfl (k ls H locs a b z)
theorem ow_ladd (C : aw_C X cc own nL d) {x y : Int64} (hd : decode cc pc = .ok (.ladd, 1))  (k : Sat X (pc + 1) L (.long (x + y) :: st) h) : Sat X pc L (.long y :: .long x :: st) h := by
  obtain ⟨E, pg, ev, R, s, m, args, below, meth, c, kc, ks, Q⟩ := X
  obtain ⟨hx, hb, hml, hown, hts, hK, hfr, hlo, hkc, hks⟩ := C
  intro ls H locs a b z
  exact lv_ladd hx hb hd  (k ls H locs a b z)
theorem ow_lsub (C : aw_C X cc own nL d) {x y : Int64} (hd : decode cc pc = .ok (.lsub, 1))  (k : Sat X (pc + 1) L (.long (x - y) :: st) h) : Sat X pc L (.long y :: .long x :: st) h := by
  obtain ⟨E, pg, ev, R, s, m, args, below, meth, c, kc, ks, Q⟩ := X
  obtain ⟨hx, hb, hml, hown, hts, hK, hfr, hlo, hkc, hks⟩ := C
  intro ls H locs a b z
  exact lv_lsub hx hb hd  (k ls H locs a b z)
theorem ow_lmul (C : aw_C X cc own nL d) {x y : Int64} (hd : decode cc pc = .ok (.lmul, 1))  (k : Sat X (pc + 1) L (.long (x * y) :: st) h) : Sat X pc L (.long y :: .long x :: st) h := by
  obtain ⟨E, pg, ev, R, s, m, args, below, meth, c, kc, ks, Q⟩ := X
  obtain ⟨hx, hb, hml, hown, hts, hK, hfr, hlo, hkc, hks⟩ := C
  intro ls H locs a b z
  exact lv_lmul hx hb hd  (k ls H locs a b z)
theorem ow_land (C : aw_C X cc own nL d) {x y : Int64} (hd : decode cc pc = .ok (.land, 1))  (k : Sat X (pc + 1) L (.long (x &&& y) :: st) h) : Sat X pc L (.long y :: .long x :: st) h := by
  obtain ⟨E, pg, ev, R, s, m, args, below, meth, c, kc, ks, Q⟩ := X
  obtain ⟨hx, hb, hml, hown, hts, hK, hfr, hlo, hkc, hks⟩ := C
  intro ls H locs a b z
  exact lv_land hx hb hd  (k ls H locs a b z)
theorem ow_lor (C : aw_C X cc own nL d) {x y : Int64} (hd : decode cc pc = .ok (.lor, 1))  (k : Sat X (pc + 1) L (.long (x ||| y) :: st) h) : Sat X pc L (.long y :: .long x :: st) h := by
  obtain ⟨E, pg, ev, R, s, m, args, below, meth, c, kc, ks, Q⟩ := X
  obtain ⟨hx, hb, hml, hown, hts, hK, hfr, hlo, hkc, hks⟩ := C
  intro ls H locs a b z
  exact lv_lor hx hb hd  (k ls H locs a b z)
theorem ow_lshl (C : aw_C X cc own nL d) {x : Int64} {y : Int32} (hd : decode cc pc = .ok (.lshl, 1))  (k : Sat X (pc + 1) L (.long (x <<< (y.toInt64 &&& 63)) :: st) h) : Sat X pc L (.int y :: .long x :: st) h := by
  obtain ⟨E, pg, ev, R, s, m, args, below, meth, c, kc, ks, Q⟩ := X
  obtain ⟨hx, hb, hml, hown, hts, hK, hfr, hlo, hkc, hks⟩ := C
  intro ls H locs a b z
  exact lv_lshl hx hb hd rfl (k ls H locs a b z)
theorem ow_lshr (C : aw_C X cc own nL d) {x : Int64} {y : Int32} (hd : decode cc pc = .ok (.lshr, 1))  (k : Sat X (pc + 1) L (.long (x >>> (y.toInt64 &&& 63)) :: st) h) : Sat X pc L (.int y :: .long x :: st) h := by
  obtain ⟨E, pg, ev, R, s, m, args, below, meth, c, kc, ks, Q⟩ := X
  obtain ⟨hx, hb, hml, hown, hts, hK, hfr, hlo, hkc, hks⟩ := C
  intro ls H locs a b z
  exact lv_lshr hx hb hd rfl (k ls H locs a b z)
theorem ow_lcmp (C : aw_C X cc own nL d) {x y : Int64} (hd : decode cc pc = .ok (.lcmp, 1))  (k : Sat X (pc + 1) L (.int (lg_cmp x y) :: st) h) : Sat X pc L (.long y :: .long x :: st) h := by
  obtain ⟨E, pg, ev, R, s, m, args, below, meth, c, kc, ks, Q⟩ := X
  obtain ⟨hx, hb, hml, hown, hts, hK, hfr, hlo, hkc, hks⟩ := C
  intro ls H locs a b z
  exact W.lcmp hx hb hd  (k ls H locs a b z)
theorem ow_i2l (C : aw_C X cc own nL d) {x : Int32} (hd : decode cc pc = .ok (.i2l, 1))  (k : Sat X (pc + 1) L (.long (x.toInt64) :: st) h) : Sat X pc L (.int x :: st) h := by
  obtain ⟨E, pg, ev, R, s, m, args, below, meth, c, kc, ks, Q⟩ := X
  obtain ⟨hx, hb, hml, hown, hts, hK, hfr, hlo, hkc, hks⟩ := C
  intro ls H locs a b z
  exact lv_i2l hx hb hd rfl (k ls H locs a b z)
theorem ow_l2i (C : aw_C X cc own nL d) {x : Int64} (hd : decode cc pc = .ok (.l2i, 1))  (k : Sat X (pc + 1) L (.int (x.toInt32) :: st) h) : Sat X pc L (.long x :: st) h := by
  obtain ⟨E, pg, ev, R, s, m, args, below, meth, c, kc, ks, Q⟩ := X
  obtain ⟨hx, hb, hml, hown, hts, hK, hfr, hlo, hkc, hks⟩ := C
  intro ls H locs a b z
  exact lv_l2i hx hb hd rfl (k ls H locs a b z)
theorem ow_i2b (C : aw_C X cc own nL d) {x : Int32} (hd : decode cc pc = .ok (.i2b, 1))  (k : Sat X (pc + 1) L (.int (x.toInt8.toInt32) :: st) h) : Sat X pc L (.int x :: st) h := by
  obtain ⟨E, pg, ev, R, s, m, args, below, meth, c, kc, ks, Q⟩ := X
  obtain ⟨hx, hb, hml, hown, hts, hK, hfr, hlo, hkc, hks⟩ := C
  intro ls H locs a b z
  exact lv_i2b hx hb hd rfl (k ls H locs a b z)
theorem ow_i2s (C : aw_C X cc own nL d) {x : Int32} (hd : decode cc pc = .ok (.i2s, 1))  (k : Sat X (pc + 1) L (.int (x.toInt16.toInt32) :: st) h) : Sat X pc L (.int x :: st) h := by
  obtain ⟨E, pg, ev, R, s, m, args, below, meth, c, kc, ks, Q⟩ := X
  obtain ⟨hx, hb, hml, hown, hts, hK, hfr, hlo, hkc, hks⟩ := C
  intro ls H locs a b z
  exact lv_i2s hx hb hd rfl (k ls H locs a b z)
theorem ow_i2c (C : aw_C X cc own nL d) {x : Int32} (hd : decode cc pc = .ok (.i2c, 1))  (k : Sat X (pc + 1) L (.int ((x.toUInt32 % 65536).toInt32) :: st) h) : Sat X pc L (.int x :: st) h := by
  obtain ⟨E, pg, ev, R, s, m, args, below, meth, c, kc, ks, Q⟩ := X
  obtain ⟨hx, hb, hml, hown, hts, hK, hfr, hlo, hkc, hks⟩ := C
  intro ls H locs a b z
  exact lv_i2c hx hb hd rfl (k ls H locs a b z)
theorem ow_idiv (C : aw_C X cc own nL d) {x y : Int32} {A : Prop} (hd : decode cc pc = .ok (.idiv, 1)) (hh : ¬ y = 0 ∧ A) (k : A → Sat X (pc + 1) L (.int (x / y) :: st) h) : Sat X pc L (.int y :: .int x :: st) h := by
  obtain ⟨E, pg, ev, R, s, m, args, below, meth, c, kc, ks, Q⟩ := X
  obtain ⟨hx, hb, hml, hown, hts, hK, hfr, hlo, hkc, hks⟩ := C
  intro ls H locs a b z
  exact lv_idiv hx hb hd hh.1 (k hh.2 ls H locs a b z)
theorem ow_irem (C : aw_C X cc own nL d) {x y : Int32} {A : Prop} (hd : decode cc pc = .ok (.irem, 1)) (hh : ¬ y = 0 ∧ A) (k : A → Sat X (pc + 1) L (.int (x - x / y * y) :: st) h) : Sat X pc L (.int y :: .int x :: st) h := by
  obtain ⟨E, pg, ev, R, s, m, args, below, meth, c, kc, ks, Q⟩ := X
  obtain ⟨hx, hb, hml, hown, hts, hK, hfr, hlo, hkc, hks⟩ := C
  intro ls H locs a b z
  exact lv_irem hx hb hd hh.1 (k hh.2 ls H locs a b z)
theorem ow_dup (C : aw_C X cc own nL d) {v : Value} (hd : decode cc pc = .ok (.dup, 1)) (hv : v.category = 1) (k : Sat X (pc + 1) L (v :: v :: st) h) : Sat X pc L (v :: st) h := by
  obtain ⟨E, pg, ev, R, s, m, args, below, meth, c, kc, ks, Q⟩ := X
  obtain ⟨hx, hb, hml, hown, hts, hK, hfr, hlo, hkc, hks⟩ := C
  intro ls H locs a b z
  exact lv_dup hx hb hd (by rw [aw_v_cat]; exact hv) (k ls H locs a b z)
theorem ow_pop (C : aw_C X cc own nL d) {v : Value} (hd : decode cc pc = .ok (.pop, 1)) (hv : v.category = 1) (k : Sat X (pc + 1) L st h) : Sat X pc L (v :: st) h := by
  obtain ⟨E, pg, ev, R, s, m, args, below, meth, c, kc, ks, Q⟩ := X
  obtain ⟨hx, hb, hml, hown, hts, hK, hfr, hlo, hkc, hks⟩ := C
  intro ls H locs a b z
  exact lv_pop hx hb hd (by rw [aw_v_cat]; exact hv) (k ls H locs a b z)
theorem ow_dup2 (C : aw_C X cc own nL d) {v u : Value} (hd : decode cc pc = .ok (.dup2, 1)) (hv : v.category = 1) (hu : u.category = 1) (k : Sat X (pc + 1) L (v :: u :: v :: u :: st) h) : Sat X pc L (v :: u :: st) h := by
  obtain ⟨E, pg, ev, R, s, m, args, below, meth, c, kc, ks, Q⟩ := X
  obtain ⟨hx, hb, hml, hown, hts, hK, hfr, hlo, hkc, hks⟩ := C
  intro ls H locs a b z
  exact lv_dup2_11 hx hb hd (by rw [aw_v_cat]; exact hv) (by rw [aw_v_cat]; exact hu) (k ls H locs a b z)
theorem ow_if_eq (C : aw_C X cc own nL d) {x : Int32} {off : Int} {tgt : Nat} {A B : Prop} (hd : decode cc pc = .ok (.ifCond .eq off, 3)) (ht : (pc : Int) + off = (tgt : Int)) (hh : if x = 0 then A else B) (kt : A → Sat X tgt L st h) (kf : B → Sat X (pc + 3) L st h) : Sat X pc L (.int x :: st) h := by
  obtain ⟨E, pg, ev, R, s, m, args, below, meth, c, kc, ks, Q⟩ := X
  obtain ⟨hx, hb, hml, hown, hts, hK, hfr, hlo, hkc, hks⟩ := C
  intro ls H locs a b z
  exact lv_if_eq hx hb hd ht (fun hc => kt (if_y hc hh) ls H locs a b z) (fun hc => kf (if_n hc hh) ls H locs a b z)
theorem ow_icmp_eq (C : aw_C X cc own nL d) {x y : Int32} {off : Int} {tgt : Nat} {A B : Prop} (hd : decode cc pc = .ok (.if_icmp .eq off, 3)) (ht : (pc : Int) + off = (tgt : Int)) (hh : if x = y then A else B) (kt : A → Sat X tgt L st h) (kf : B → Sat X (pc + 3) L st h) : Sat X pc L (.int y :: .int x :: st) h := by
  obtain ⟨E, pg, ev, R, s, m, args, below, meth, c, kc, ks, Q⟩ := X
  obtain ⟨hx, hb, hml, hown, hts, hK, hfr, hlo, hkc, hks⟩ := C
  intro ls H locs a b z
  exact lv_icmp_eq hx hb hd ht (fun hc => kt (if_y hc hh) ls H locs a b z) (fun hc => kf (if_n hc hh) ls H locs a b z)
theorem ow_if_ne (C : aw_C X cc own nL d) {x : Int32} {off : Int} {tgt : Nat} {A B : Prop} (hd : decode cc pc = .ok (.ifCond .ne off, 3)) (ht : (pc : Int) + off = (tgt : Int)) (hh : if ¬ x = 0 then A else B) (kt : A → Sat X tgt L st h) (kf : B → Sat X (pc + 3) L st h) : Sat X pc L (.int x :: st) h := by
  obtain ⟨E, pg, ev, R, s, m, args, below, meth, c, kc, ks, Q⟩ := X
  obtain ⟨hx, hb, hml, hown, hts, hK, hfr, hlo, hkc, hks⟩ := C
  intro ls H locs a b z
  exact lv_if_ne hx hb hd ht (fun hc => kt (if_y hc hh) ls H locs a b z) (fun hc => kf (if_n (fun q => q hc) hh) ls H locs a b z)
theorem ow_icmp_ne (C : aw_C X cc own nL d) {x y : Int32} {off : Int} {tgt : Nat} {A B : Prop} (hd : decode cc pc = .ok (.if_icmp .ne off, 3)) (ht : (pc : Int) + off = (tgt : Int)) (hh : if ¬ x = y then A else B) (kt : A → Sat X tgt L st h) (kf : B → Sat X (pc + 3) L st h) : Sat X pc L (.int y :: .int x :: st) h := by
  obtain ⟨E, pg, ev, R, s, m, args, below, meth, c, kc, ks, Q⟩ := X
  obtain ⟨hx, hb, hml, hown, hts, hK, hfr, hlo, hkc, hks⟩ := C
  intro ls H locs a b z
  exact lv_icmp_ne hx hb hd ht (fun hc => kt (if_y hc hh) ls H locs a b z) (fun hc => kf (if_n (fun q => q hc) hh) ls H locs a b z)
theorem ow_if_lt (C : aw_C X cc own nL d) {x : Int32} {off : Int} {tgt : Nat} {A B : Prop} (hd : decode cc pc = .ok (.ifCond .lt off, 3)) (ht : (pc : Int) + off = (tgt : Int)) (hh : if x < 0 then A else B) (kt : A → Sat X tgt L st h) (kf : B → Sat X (pc + 3) L st h) : Sat X pc L (.int x :: st) h := by
  obtain ⟨E, pg, ev, R, s, m, args, below, meth, c, kc, ks, Q⟩ := X
  obtain ⟨hx, hb, hml, hown, hts, hK, hfr, hlo, hkc, hks⟩ := C
  intro ls H locs a b z
  exact lv_if_lt hx hb hd ht (fun hc => kt (if_y hc hh) ls H locs a b z) (fun hc => kf (if_n hc hh) ls H locs a b z)
theorem ow_icmp_lt (C : aw_C X cc own nL d) {x y : Int32} {off : Int} {tgt : Nat} {A B : Prop} (hd : decode cc pc = .ok (.if_icmp .lt off, 3)) (ht : (pc : Int) + off = (tgt : Int)) (hh : if x < y then A else B) (kt : A → Sat X tgt L st h) (kf : B → Sat X (pc + 3) L st h) : Sat X pc L (.int y :: .int x :: st) h := by
  obtain ⟨E, pg, ev, R, s, m, args, below, meth, c, kc, ks, Q⟩ := X
  obtain ⟨hx, hb, hml, hown, hts, hK, hfr, hlo, hkc, hks⟩ := C
  intro ls H locs a b z
  exact lv_icmp_lt hx hb hd ht (fun hc => kt (if_y hc hh) ls H locs a b z) (fun hc => kf (if_n hc hh) ls H locs a b z)
theorem ow_if_ge (C : aw_C X cc own nL d) {x : Int32} {off : Int} {tgt : Nat} {A B : Prop} (hd : decode cc pc = .ok (.ifCond .ge off, 3)) (ht : (pc : Int) + off = (tgt : Int)) (hh : if 0 ≤ x then A else B) (kt : A → Sat X tgt L st h) (kf : B → Sat X (pc + 3) L st h) : Sat X pc L (.int x :: st) h := by
  obtain ⟨E, pg, ev, R, s, m, args, below, meth, c, kc, ks, Q⟩ := X
  obtain ⟨hx, hb, hml, hown, hts, hK, hfr, hlo, hkc, hks⟩ := C
  intro ls H locs a b z
  exact lv_if_ge hx hb hd ht (fun hc => kt (if_y hc hh) ls H locs a b z) (fun hc => kf (if_n hc hh) ls H locs a b z)
theorem ow_icmp_ge (C : aw_C X cc own nL d) {x y : Int32} {off : Int} {tgt : Nat} {A B : Prop} (hd : decode cc pc = .ok (.if_icmp .ge off, 3)) (ht : (pc : Int) + off = (tgt : Int)) (hh : if y ≤ x then A else B) (kt : A → Sat X tgt L st h) (kf : B → Sat X (pc + 3) L st h) : Sat X pc L (.int y :: .int x :: st) h := by
  obtain ⟨E, pg, ev, R, s, m, args, below, meth, c, kc, ks, Q⟩ := X
  obtain ⟨hx, hb, hml, hown, hts, hK, hfr, hlo, hkc, hks⟩ := C
  intro ls H locs a b z
  exact lv_icmp_ge hx hb hd ht (fun hc => kt (if_y hc hh) ls H locs a b z) (fun hc => kf (if_n hc hh) ls H locs a b z)
theorem ow_if_gt (C : aw_C X cc own nL d) {x : Int32} {off : Int} {tgt : Nat} {A B : Prop} (hd : decode cc pc = .ok (.ifCond .gt off, 3)) (ht : (pc : Int) + off = (tgt : Int)) (hh : if 0 < x then A else B) (kt : A → Sat X tgt L st h) (kf : B → Sat X (pc + 3) L st h) : Sat X pc L (.int x :: st) h := by
  obtain ⟨E, pg, ev, R, s, m, args, below, meth, c, kc, ks, Q⟩ := X
  obtain ⟨hx, hb, hml, hown, hts, hK, hfr, hlo, hkc, hks⟩ := C
  intro ls H locs a b z
  exact lv_if_gt hx hb hd ht (fun hc => kt (if_y hc hh) ls H locs a b z) (fun hc => kf (if_n hc hh) ls H locs a b z)
theorem ow_icmp_gt (C : aw_C X cc own nL d) {x y : Int32} {off : Int} {tgt : Nat} {A B : Prop} (hd : decode cc pc = .ok (.if_icmp .gt off, 3)) (ht : (pc : Int) + off = (tgt : Int)) (hh : if y < x then A else B) (kt : A → Sat X tgt L st h) (kf : B → Sat X (pc + 3) L st h) : Sat X pc L (.int y :: .int x :: st) h := by
  obtain ⟨E, pg, ev, R, s, m, args, below, meth, c, kc, ks, Q⟩ := X
  obtain ⟨hx, hb, hml, hown, hts, hK, hfr, hlo, hkc, hks⟩ := C
  intro ls H locs a b z
  exact lv_icmp_gt hx hb hd ht (fun hc => kt (if_y hc hh) ls H locs a b z) (fun hc => kf (if_n hc hh) ls H locs a b z)
theorem ow_if_le (C : aw_C X cc own nL d) {x : Int32} {off : Int} {tgt : Nat} {A B : Prop} (hd : decode cc pc = .ok (.ifCond .le off, 3)) (ht : (pc : Int) + off = (tgt : Int)) (hh : if x ≤ 0 then A else B) (kt : A → Sat X tgt L st h) (kf : B → Sat X (pc + 3) L st h) : Sat X pc L (.int x :: st) h := by
  obtain ⟨E, pg, ev, R, s, m, args, below, meth, c, kc, ks, Q⟩ := X
  obtain ⟨hx, hb, hml, hown, hts, hK, hfr, hlo, hkc, hks⟩ := C
  intro ls H locs a b z
  exact lv_if_le hx hb hd ht (fun hc => kt (if_y hc hh) ls H locs a b z) (fun hc => kf (if_n hc hh) ls H locs a b z)
theorem ow_icmp_le (C : aw_C X cc own nL d) {x y : Int32} {off : Int} {tgt : Nat} {A B : Prop} (hd : decode cc pc = .ok (.if_icmp .le off, 3)) (ht : (pc : Int) + off = (tgt : Int)) (hh : if x ≤ y then A else B) (kt : A → Sat X tgt L st h) (kf : B → Sat X (pc + 3) L st h) : Sat X pc L (.int y :: .int x :: st) h := by
  obtain ⟨E, pg, ev, R, s, m, args, below, meth, c, kc, ks, Q⟩ := X
  obtain ⟨hx, hb, hml, hown, hts, hK, hfr, hlo, hkc, hks⟩ := C
  intro ls H locs a b z
  exact lv_icmp_le hx hb hd ht (fun hc => kt (if_y hc hh) ls H locs a b z) (fun hc => kf (if_n hc hh) ls H locs a b z)
theorem ow_goto (C : aw_C X cc own nL d) {off : Int} {tgt : Nat} (hd : decode cc pc = .ok (.goto off, 3)) (ht : (pc : Int) + off = (tgt : Int)) (k : Sat X tgt L st h) : Sat X pc L st h := by
  obtain ⟨E, pg, ev, R, s, m, args, below, meth, c, kc, ks, Q⟩ := X
  obtain ⟨hx, hb, hml, hown, hts, hK, hfr, hlo, hkc, hks⟩ := C
  intro ls H locs a b z
  exact lv_goto hx hb hd ht (k ls H locs a b z)
theorem ow_ldc (C : aw_C X cc own nL d) {idx : Nat} {v : Int32} (hw : Cond.constant own idx v ∈ lw_g) (hd : decode cc pc = .ok (.ldc idx, 2)) (k : Sat X (pc + 2) L (.int v :: st) h) : Sat X pc L st h := by
  obtain ⟨E, pg, ev, R, s, m, args, below, meth, c, kc, ks, Q⟩ := X
  obtain ⟨hx, hb, hml, hown, hts, hK, hfr, hlo, hkc, hks⟩ := C
  intro ls H locs a b z
  exact lv_ldc hx hb hown (hts _ hw) hd (k ls H locs a b z)
theorem ow_ldc_w (C : aw_C X cc own nL d) {idx : Nat} {v : Int32} (hw : Cond.constant own idx v ∈ lw_g) (hd : decode cc pc = .ok (.ldc_w idx, 3)) (k : Sat X (pc + 3) L (.int v :: st) h) : Sat X pc L st h := by
  obtain ⟨E, pg, ev, R, s, m, args, below, meth, c, kc, ks, Q⟩ := X
  obtain ⟨hx, hb, hml, hown, hts, hK, hfr, hlo, hkc, hks⟩ := C
  intro ls H locs a b z
  exact lv_ldcw hx hb hown (hts _ hw) hd (k ls H locs a b z)
theorem ow_ldc2 (C : aw_C X cc own nL d) {idx : Nat} {v : Int64} (hw : Cond.constantLong own idx v ∈ lw_g) (hd : decode cc pc = .ok (.ldc2_w idx, 3)) (k : Sat X (pc + 3) L (.long v :: st) h) : Sat X pc L st h := by
  obtain ⟨E, pg, ev, R, s, m, args, below, meth, c, kc, ks, Q⟩ := X
  obtain ⟨hx, hb, hml, hown, hts, hK, hfr, hlo, hkc, hks⟩ := C
  intro ls H locs a b z
  exact lv_ldc2 hx hb hown (hts _ hw) hd (k ls H locs a b z)
theorem ow_tableIn (C : aw_C X cc own nL d) {dflt lo hi : Int} {offs : Array Int} {len : Nat} {x v : Int32} {off : Int} {tgt : Nat} (hd : decode cc pc = .ok (.tableswitch dflt lo hi offs, len)) (hv : x = v) (h1 : ¬ v.toInt < lo) (h2 : ¬ hi < v.toInt) (ho : offs[(v.toInt - lo).toNat]? = some off) (ht : (pc : Int) + off = (tgt : Int)) (k : Sat X tgt L st h) : Sat X pc L (.int x :: st) h := by
  obtain ⟨E, pg, ev, R, s, m, args, below, meth, c, kc, ks, Q⟩ := X
  obtain ⟨hx, hb, hml, hown, hts, hK, hfr, hlo, hkc, hks⟩ := C
  intro ls H locs a b z
  subst hv
  exact lv_tableIn hx hb hd h1 h2 ho ht (k ls H locs a b z)
theorem ow_tableOut (C : aw_C X cc own nL d) {dflt lo hi : Int} {offs : Array Int} {len : Nat} {x : Int32} {tgt : Nat} (hd : decode cc pc = .ok (.tableswitch dflt lo hi offs, len)) (ho : x.toInt < lo ∨ hi < x.toInt) (ht : (pc : Int) + dflt = (tgt : Int)) (k : Sat X tgt L st h) : Sat X pc L (.int x :: st) h := by
  obtain ⟨E, pg, ev, R, s, m, args, below, meth, c, kc, ks, Q⟩ := X
  obtain ⟨hx, hb, hml, hown, hts, hK, hfr, hlo, hkc, hks⟩ := C
  intro ls H locs a b z
  exact lv_tableOut hx hb hd ho ht (k ls H locs a b z)
theorem ow_lookup (C : aw_C X cc own nL d) {dflt : Int} {ps : Array (Int × Int)} {len : Nat} {x : Int32} {off : Int} {tgt : Nat} (hd : decode cc pc = .ok (.lookupswitch dflt ps, len)) (hp : (ps.toList.zip (ps.toList.drop 1)).all (fun (a, next) => a.1 < next.1) = true) (ho : Op.lookupswitch.offset ps.toList dflt x.toInt = off) (ht : (pc : Int) + off = (tgt : Int)) (k : Sat X tgt L st h) : Sat X pc L (.int x :: st) h := by
  obtain ⟨E, pg, ev, R, s, m, args, below, meth, c, kc, ks, Q⟩ := X
  obtain ⟨hx, hb, hml, hown, hts, hK, hfr, hlo, hkc, hks⟩ := C
  intro ls H locs a b z
  exact lv_lookup hx hb hd hp ho ht (k ls H locs a b z)
theorem ow_getI (C : aw_C X cc own nL d) {ci k idx p : Nat} {Cn : String} {T : u_T} {N : Nat} (hc : vwCl[ci]? = some (Cn, T, N)) (hin : ∀ w ∈ u_ws Cn T N, w ∈ lw_g) (hk : k < N) (hw : Cond.fieldLink own idx (T k).1 (T k).2.1 (T k).2.2.1 ∈ lw_g) (hd : decode cc pc = .ok (.getfield idx, 3)) {K : Int32 → Prop} (hh : sg_I h p ci k K) (kk : ∀ v, K v → Sat X (pc + 3) L (.int v :: st) h) : Sat X pc L (.ref p :: st) h := by
  obtain ⟨E, pg, ev, R, s, m, args, below, meth, c, kc, ks, Q⟩ := X
  obtain ⟨hx, hb, hml, hown, hts, hK, hfr, hlo, hkc, hks⟩ := C
  intro ls H locs a b z
  obtain ⟨fs, v, h1, h2, h3⟩ := sg_I_e hh
  exact va_get hx hb hts hin hown hK b.1 p (aw_w_get h1) hc k hk (hts _ hw) (fun _ q => q) (v := aw_v E.2.2.2.1 (.int v)) (by rw [List.getElem?_map, h2]; rfl) hd (kk v h3 ls H locs a b z)
theorem ow_getR (C : aw_C X cc own nL d) {ci k idx p : Nat} {Cn : String} {T : u_T} {N : Nat} (hc : vwCl[ci]? = some (Cn, T, N)) (hin : ∀ w ∈ u_ws Cn T N, w ∈ lw_g) (hk : k < N) (hw : Cond.fieldLink own idx (T k).1 (T k).2.1 (T k).2.2.1 ∈ lw_g) (hd : decode cc pc = .ok (.getfield idx, 3)) {K : Nat → Prop} (hh : sg_R h p ci k K) (kk : ∀ v, K v → Sat X (pc + 3) L (.ref v :: st) h) : Sat X pc L (.ref p :: st) h := by
  obtain ⟨E, pg, ev, R, s, m, args, below, meth, c, kc, ks, Q⟩ := X
  obtain ⟨hx, hb, hml, hown, hts, hK, hfr, hlo, hkc, hks⟩ := C
  intro ls H locs a b z
  obtain ⟨fs, v, h1, h2, h3⟩ := sg_R_e hh
  exact va_get hx hb hts hin hown hK b.1 p (aw_w_get h1) hc k hk (hts _ hw) (fun _ q => q) (v := aw_v E.2.2.2.1 (.ref v)) (by rw [List.getElem?_map, h2]; rfl) hd (kk v h3 ls H locs a b z)
theorem ow_putI (C : aw_C X cc own nL d) {ci k idx p : Nat} {v : Int32} {Cn : String} {T : u_T} {N : Nat} (hc : vwCl[ci]? = some (Cn, T, N)) (hin : ∀ w ∈ u_ws Cn T N, w ∈ lw_g) (ty0 : Nat → FieldType) (hty : ∀ k, k < N → parseFieldDescriptor (T k).2.2.1 = some (ty0 k)) (hnm : ∀ a, a < N → ∀ b, b < N → a ≠ b → (T a).2.1 ≠ (T b).2.1) (hk : k < N) (hw : Cond.fieldLink own idx (T k).1 (T k).2.1 (T k).2.2.1 ∈ lw_g) (hfin : (T k).2.2.2 = false) (hdy : parseFieldDescriptor (T k).2.2.1 = some .int) (hd : decode cc pc = .ok (.putfield idx, 3)) {K : aw_H → Prop} (hh : sp_I h p ci k v K) (kk : ∀ h', K h' → Sat X (pc + 3) L st h') : Sat X pc L (.int v :: .ref p :: st) h := by
  obtain ⟨E, pg, ev, R, s, m, args, below, meth, c, kc, ks, Q⟩ := X
  obtain ⟨hx, hb, hml, hown, hts, hK, hfr, hlo, hkc, hks⟩ := C
  intro ls H locs a b z
  obtain ⟨fs, h1, h2, h3⟩ := sp_I_e hh
  refine va_put (v := .int v) (ty := .int) hx hb hts hin ty0 hty hnm hown hK b.1 b.2 z p (aw_w_get h1) hc k hk (hts _ hw) (fun _ q => q) hfin hdy rfl rfl (by rw [List.length_map]; exact h2) hd (fun H1 locs1 q1 q2 q3 => ?_)
  have e1 : aw_w E.2.2.2.1 E.2.2.1 (h.set p (.inr (ci, fs.set k (.int v)))) = (aw_w E.2.2.2.1 E.2.2.1 h).set p (E.2.2.2.1 p, .inr (ci, (fs.map (aw_v E.2.2.2.1)).set k (.int v))) := by
    rw [aw_w_set]
    show _ = _
    rw [show aw_e E.2.2.2.1 E.2.2.1 (.inr (ci, fs.set k (.int v))) = .inr (ci, (fs.set k (.int v)).map (aw_v E.2.2.2.1)) from rfl, List.map_set]
    rfl
  exact kk _ h3 ls H1 locs1 a ⟨by rw [e1]; exact q1, by rw [e1]; exact q2⟩ q3
theorem ow_putZ (C : aw_C X cc own nL d) {ci k idx p : Nat} {v : Int32} {Cn : String} {T : u_T} {N : Nat} (hc : vwCl[ci]? = some (Cn, T, N)) (hin : ∀ w ∈ u_ws Cn T N, w ∈ lw_g) (ty0 : Nat → FieldType) (hty : ∀ k, k < N → parseFieldDescriptor (T k).2.2.1 = some (ty0 k)) (hnm : ∀ a, a < N → ∀ b, b < N → a ≠ b → (T a).2.1 ≠ (T b).2.1) (hk : k < N) (hw : Cond.fieldLink own idx (T k).1 (T k).2.1 (T k).2.2.1 ∈ lw_g) (hfin : (T k).2.2.2 = false) (hdy : parseFieldDescriptor (T k).2.2.1 = some .boolean) (hbl : v = 0 ∨ v = 1) (hd : decode cc pc = .ok (.putfield idx, 3)) {K : aw_H → Prop} (hh : sp_I h p ci k v K) (kk : ∀ h', K h' → Sat X (pc + 3) L st h') : Sat X pc L (.int v :: .ref p :: st) h := by
  obtain ⟨E, pg, ev, R, s, m, args, below, meth, c, kc, ks, Q⟩ := X
  obtain ⟨hx, hb, hml, hown, hts, hK, hfr, hlo, hkc, hks⟩ := C
  intro ls H locs a b z
  obtain ⟨fs, h1, h2, h3⟩ := sp_I_e hh
  refine va_put (v := .int v) (ty := .boolean) hx hb hts hin ty0 hty hnm hown hK b.1 b.2 z p (aw_w_get h1) hc k hk (hts _ hw) (fun _ q => q) hfin hdy (by rcases hbl with q | q <;> (rw [q]; rfl)) (by rcases hbl with q | q <;> (rw [q]; rfl)) (by rw [List.length_map]; exact h2) hd (fun H1 locs1 q1 q2 q3 => ?_)
  have e1 : aw_w E.2.2.2.1 E.2.2.1 (h.set p (.inr (ci, fs.set k (.int v)))) = (aw_w E.2.2.2.1 E.2.2.1 h).set p (E.2.2.2.1 p, .inr (ci, (fs.map (aw_v E.2.2.2.1)).set k (.int v))) := by
    rw [aw_w_set]
    show _ = _
    rw [show aw_e E.2.2.2.1 E.2.2.1 (.inr (ci, fs.set k (.int v))) = .inr (ci, (fs.set k (.int v)).map (aw_v E.2.2.2.1)) from rfl, List.map_set]
    rfl
  exact kk _ h3 ls H1 locs1 a ⟨by rw [e1]; exact q1, by rw [e1]; exact q2⟩ q3
theorem ow_iaload (C : aw_C X cc own nL d) {p : Nat} {i : Int32} (hd : decode cc pc = .ok (.iaload, 1)) {K : Int32 → Prop} (hh : sa_I h p i K) (kk : ∀ v, K v → Sat X (pc + 1) L (.int v :: st) h) : Sat X pc L (.int i :: .ref p :: st) h := by
  obtain ⟨E, pg, ev, R, s, m, args, below, meth, c, kc, ks, Q⟩ := X
  obtain ⟨hx, hb, hml, hown, hts, hK, hfr, hlo, hkc, hks⟩ := C
  intro ls H locs a b z
  obtain ⟨n, f, h1, h2, h3⟩ := sa_I_e hh
  exact va_iald hx hb hK b.1 p 0 (aw_w_get h1) rfl h2 hd (kk _ h3 ls H locs a b z)
theorem ow_caload (C : aw_C X cc own nL d) {p : Nat} {i : Int32} (hd : decode cc pc = .ok (.caload, 1)) {K : Int32 → Prop} (hh : sa_C h p i K) (kk : ∀ v, K v → Sat X (pc + 1) L (.int v :: st) h) : Sat X pc L (.int i :: .ref p :: st) h := by
  obtain ⟨E, pg, ev, R, s, m, args, below, meth, c, kc, ks, Q⟩ := X
  obtain ⟨hx, hb, hml, hown, hts, hK, hfr, hlo, hkc, hks⟩ := C
  intro ls H locs a b z
  obtain ⟨n, f, h1, h2, h3⟩ := sa_C_e hh
  exact va_cald hx hb hK b.1 p 2 (aw_w_get h1) rfl h2 hd (kk _ h3 ls H locs a b z)
theorem ow_laload (C : aw_C X cc own nL d) {p : Nat} {i : Int32} (hd : decode cc pc = .ok (.laload, 1)) {K : Int64 → Prop} (hh : sa_L h p i K) (kk : ∀ v, K v → Sat X (pc + 1) L (.long v :: st) h) : Sat X pc L (.int i :: .ref p :: st) h := by
  obtain ⟨E, pg, ev, R, s, m, args, below, meth, c, kc, ks, Q⟩ := X
  obtain ⟨hx, hb, hml, hown, hts, hK, hfr, hlo, hkc, hks⟩ := C
  intro ls H locs a b z
  obtain ⟨n, f, h1, h2, h3⟩ := sa_L_e hh
  exact va_lald hx hb hK b.1 p 1 (aw_w_get h1) rfl h2 hd (kk _ h3 ls H locs a b z)
theorem ow_aaload (C : aw_C X cc own nL d) {t0 p : Nat} {i : Int32} {Cn : String} (hd : decode cc pc = .ok (.aaload, 1)) (ht : ∀ aC : Nat → ClassId, (aw_t aC)[t0]? = some (aC t0, .object Cn)) {K : Nat → Prop} (hh : sa_R h t0 p i K) (kk : ∀ v, K v → Sat X (pc + 1) L (.ref v :: st) h) : Sat X pc L (.int i :: .ref p :: st) h := by
  obtain ⟨E, pg, ev, R, s, m, args, below, meth, c, kc, ks, Q⟩ := X
  obtain ⟨hx, hb, hml, hown, hts, hK, hfr, hlo, hkc, hks⟩ := C
  intro ls H locs a b z
  obtain ⟨n, f, q, h1, h2, h3, h4⟩ := sa_R_e hh
  refine va_aldq (C := Cn) hx hb hK b.1 p t0 (aw_w_get h1) (ht _) h2 hd ?_
  have e1 : va_rf ((fun j => (f j).map E.2.2.2.1) i.toNatClampNeg) = .ref (E.2.2.2.1 q) := by
    show va_rf ((f i.toNatClampNeg).map E.2.2.2.1) = _
    rw [h3]
    rfl
  rw [e1]
  exact kk _ h4 ls H locs a b z
theorem ow_alen (C : aw_C X cc own nL d) {p : Nat} (hd : decode cc pc = .ok (.arraylength, 1)) {K : Int32 → Prop} (hh : sa_N h p K) (kk : ∀ v, K v → Sat X (pc + 1) L (.int v :: st) h) : Sat X pc L (.ref p :: st) h := by
  obtain ⟨E, pg, ev, R, s, m, args, below, meth, c, kc, ks, Q⟩ := X
  obtain ⟨hx, hb, hml, hown, hts, hK, hfr, hlo, hkc, hks⟩ := C
  intro ls H locs a b z
  obtain ⟨t, n, x, h1, h2, h3⟩ := sa_N_e hh
  have hn : (aw_a E.2.2.2.1 (n, x)).1 = n := by rcases x with f | f | f | f | f <;> rfl
  rcases (show t = 0 ∨ t = 1 ∨ t = 2 ∨ t = 3 ∨ t = 4 by omega) with q | q | q | q | q <;> subst q
  · exact va_alen hx hb hK b.1 p 0 (aw_w_get h1) rfl (by rw [hn]) hd (kk _ h3 ls H locs a b z)
  · exact va_alen hx hb hK b.1 p 1 (aw_w_get h1) rfl (by rw [hn]) hd (kk _ h3 ls H locs a b z)
  · exact va_alen hx hb hK b.1 p 2 (aw_w_get h1) rfl (by rw [hn]) hd (kk _ h3 ls H locs a b z)
  · exact va_alen hx hb hK b.1 p 3 (aw_w_get h1) rfl (by rw [hn]) hd (kk _ h3 ls H locs a b z)
  · exact va_alen hx hb hK b.1 p 4 (aw_w_get h1) rfl (by rw [hn]) hd (kk _ h3 ls H locs a b z)
theorem ow_iastore (C : aw_C X cc own nL d) {p : Nat} {i : Int32} {x : Int32} (hd : decode cc pc = .ok (.iastore, 1)) {K : aw_H → Prop} (hh : ss_I h p i x K) (kk : ∀ h', K h' → Sat X (pc + 1) L st h') : Sat X pc L (.int x :: .int i :: .ref p :: st) h := by
  obtain ⟨E, pg, ev, R, s, m, args, below, meth, c, kc, ks, Q⟩ := X
  obtain ⟨hx, hb, hml, hown, hts, hK, hfr, hlo, hkc, hks⟩ := C
  intro ls H locs a b z
  obtain ⟨n, f, h1, h2, h3⟩ := ss_I_e hh
  refine va_iast hx hb hK b.1 b.2 z p 0 (aw_w_get h1) rfl h2 hd (fun H1 locs1 q1 q2 q3 => ?_)
  have e1 := aw_w_set E.2.2.2.1 E.2.2.1 h p (.inl (0, n, .inl (upd f i.toNatClampNeg x)))
  exact kk _ h3 ls H1 locs1 a ⟨by rw [e1]; exact q1, by rw [e1]; exact q2⟩ q3
theorem ow_castore (C : aw_C X cc own nL d) {p : Nat} {i : Int32} {x : Int32} (hd : decode cc pc = .ok (.castore, 1)) {K : aw_H → Prop} (hh : ss_C h p i x K) (kk : ∀ h', K h' → Sat X (pc + 1) L st h') : Sat X pc L (.int x :: .int i :: .ref p :: st) h := by
  obtain ⟨E, pg, ev, R, s, m, args, below, meth, c, kc, ks, Q⟩ := X
  obtain ⟨hx, hb, hml, hown, hts, hK, hfr, hlo, hkc, hks⟩ := C
  intro ls H locs a b z
  obtain ⟨n, f, h1, h2, h3⟩ := ss_C_e hh
  refine va_cast hx hb hK b.1 b.2 z p 2 (aw_w_get h1) rfl h2 hd (fun H1 locs1 q1 q2 q3 => ?_)
  have e1 := aw_w_set E.2.2.2.1 E.2.2.1 h p (.inl (2, n, .inl (upd f i.toNatClampNeg (vp_nar .char x))))
  exact kk _ h3 ls H1 locs1 a ⟨by rw [e1]; exact q1, by rw [e1]; exact q2⟩ q3
theorem ow_lastore (C : aw_C X cc own nL d) {p : Nat} {i : Int32} {x : Int64} (hd : decode cc pc = .ok (.lastore, 1)) {K : aw_H → Prop} (hh : ss_L h p i x K) (kk : ∀ h', K h' → Sat X (pc + 1) L st h') : Sat X pc L (.long x :: .int i :: .ref p :: st) h := by
  obtain ⟨E, pg, ev, R, s, m, args, below, meth, c, kc, ks, Q⟩ := X
  obtain ⟨hx, hb, hml, hown, hts, hK, hfr, hlo, hkc, hks⟩ := C
  intro ls H locs a b z
  obtain ⟨n, f, h1, h2, h3⟩ := ss_L_e hh
  refine va_last hx hb hK b.1 b.2 z p 1 (aw_w_get h1) rfl h2 hd (fun H1 locs1 q1 q2 q3 => ?_)
  have e1 := aw_w_set E.2.2.2.1 E.2.2.1 h p (.inl (1, n, .inr (.inl (vp_updL f i.toNatClampNeg x))))
  exact kk _ h3 ls H1 locs1 a ⟨by rw [e1]; exact q1, by rw [e1]; exact q2⟩ q3
theorem ow_copyI (C : aw_C X cc own nL d) {ps pd idx : Nat} {sp dp n : Int32} (hd0 : 1 ≤ d) (w1 : Cond.methodLink own idx arraycopyName ∈ lw_g) (w2 : Cond.native arraycopyName ∈ lw_g) (w3 : Cond.static arraycopyName ∈ lw_g) (w4 : Cond.initialized "java/lang/System" ∈ lw_g) (hd : decode cc pc = .ok (.invokestatic idx, 3)) {K : aw_H → Prop} (hh : sc_I h ps sp pd dp n K) (hr : (st.map fun v => v.category).sum ≤ 8) (kk : ∀ h', K h' → Sat X (pc + 3) L st h') : Sat X pc L (.int n :: .int dp :: .ref pd :: .int sp :: .ref ps :: st) h := by
  obtain ⟨E, pg, ev, R, s, m, args, below, meth, c, kc, ks, Q⟩ := X
  obtain ⟨hx, hb, hml, hown, hts, hK, hfr, hlo, hkc, hks⟩ := C
  intro ls H locs a b z
  unfold sc_I at hh
  split at hh
  · rename_i t0 n0 f t1 n1 g h1 h2
    obtain ⟨rfl, rfl, q1, q2, q3, q4, q5, h3⟩ := hh
    have hr' : ((st.map (aw_v E.2.2.2.1)).map fun v => v.category).sum ≤ 8 := by rw [List.map_map, show ((fun v : Value => v.category) ∘ aw_v E.2.2.2.1) = fun v => v.category from funext (fun v => aw_v_cat _ v)]; exact hr
    have hnf : nativeFrameWords "java/lang/System" "arraycopy" 5 ≤ 20 := by decide
    refine va_copyi hx hb (by rw [a.1]) hown (hts _ w1) (hts _ w2) (hts _ w3) (hts _ w4) hK b.1 b.2 z ps pd 0 0 (aw_w_get h1) (aw_w_get h2) rfl rfl rfl q1 q2 q3 q4 q5 (fun _ _ => rfl) (by omega) (by omega) hd (fun H1 locs1 r1 r2 r3 => ?_)
    have e1 := aw_w_set E.2.2.2.1 E.2.2.1 h pd (.inl (0, n1, .inl (va_cpy f g sp.toNatClampNeg dp.toNatClampNeg n.toNatClampNeg)))
    exact kk _ h3 ls H1 locs1 a ⟨by rw [e1]; exact r1, by rw [e1]; exact r2⟩ r3
  · exact hh.elim
theorem ow_copyL (C : aw_C X cc own nL d) {ps pd idx : Nat} {sp dp n : Int32} (hd0 : 1 ≤ d) (w1 : Cond.methodLink own idx arraycopyName ∈ lw_g) (w2 : Cond.native arraycopyName ∈ lw_g) (w3 : Cond.static arraycopyName ∈ lw_g) (w4 : Cond.initialized "java/lang/System" ∈ lw_g) (hd : decode cc pc = .ok (.invokestatic idx, 3)) {K : aw_H → Prop} (hh : sc_L h ps sp pd dp n K) (hr : (st.map fun v => v.category).sum ≤ 8) (kk : ∀ h', K h' → Sat X (pc + 3) L st h') : Sat X pc L (.int n :: .int dp :: .ref pd :: .int sp :: .ref ps :: st) h := by
  obtain ⟨E, pg, ev, R, s, m, args, below, meth, c, kc, ks, Q⟩ := X
  obtain ⟨hx, hb, hml, hown, hts, hK, hfr, hlo, hkc, hks⟩ := C
  intro ls H locs a b z
  unfold sc_L at hh
  split at hh
  · rename_i t0 n0 f t1 n1 g h1 h2
    obtain ⟨rfl, rfl, q1, q2, q3, q4, q5, h3⟩ := hh
    have hr' : ((st.map (aw_v E.2.2.2.1)).map fun v => v.category).sum ≤ 8 := by rw [List.map_map, show ((fun v : Value => v.category) ∘ aw_v E.2.2.2.1) = fun v => v.category from funext (fun v => aw_v_cat _ v)]; exact hr
    have hnf : nativeFrameWords "java/lang/System" "arraycopy" 5 ≤ 20 := by decide
    refine va_copyl hx hb (by rw [a.1]) hown (hts _ w1) (hts _ w2) (hts _ w3) (hts _ w4) hK b.1 b.2 z ps pd 1 1 (aw_w_get h1) (aw_w_get h2) rfl rfl rfl q1 q2 q3 q4 q5 (fun _ _ => rfl) (by omega) (by omega) hd (fun H1 locs1 r1 r2 r3 => ?_)
    have e1 := aw_w_set E.2.2.2.1 E.2.2.1 h pd (.inl (1, n1, .inr (.inl (va_cpy f g sp.toNatClampNeg dp.toNatClampNeg n.toNatClampNeg))))
    exact kk _ h3 ls H1 locs1 a ⟨by rw [e1]; exact r1, by rw [e1]; exact r2⟩ r3
  · exact hh.elim
theorem ow_mmax (C : aw_C X cc own nL d) {idx : Nat} {x y : Int32} (hd0 : 1 ≤ d) (w1 : Cond.methodLink own idx Lib.Math.max.name ∈ lw_g) (w2 : Cond.static Lib.Math.max.name ∈ lw_g) (w3 : Cond.initialized "java/lang/Math" ∈ lw_g) (w4 : Cond.code Lib.Math.max.name Lib.Math.max.code 2 (some .int) ∈ lw_g) (hd : decode cc pc = .ok (.invokestatic idx, 3)) (hr : (st.map fun v => v.category).sum ≤ 8) (k : Sat X (pc + 3) L (.int (if x < y then y else x) :: st) h) : Sat X pc L (.int y :: .int x :: st) h := by
  obtain ⟨E, pg, ev, R, s, m, args, below, meth, c, kc, ks, Q⟩ := X
  obtain ⟨hx, hb, hml, hown, hts, hK, hfr, hlo, hkc, hks⟩ := C
  intro ls H locs a b z
  have hr' : ((st.map (aw_v E.2.2.2.1)).map fun v => v.category).sum ≤ 8 := by rw [List.map_map, show ((fun v : Value => v.category) ∘ aw_v E.2.2.2.1) = fun v => v.category from funext (fun v => aw_v_cat _ v)]; exact hr
  exact va_mmax hx hb (by rw [a.1]) hown (hts _ w1) (hts _ w2) (hts _ w3) (hts _ w4) (by omega) (by omega) hkc hks hd (k ls H locs a b z)
theorem ow_mmin (C : aw_C X cc own nL d) {idx : Nat} {x y : Int32} (hd0 : 1 ≤ d) (w1 : Cond.methodLink own idx Lib.Math.min.name ∈ lw_g) (w2 : Cond.static Lib.Math.min.name ∈ lw_g) (w3 : Cond.initialized "java/lang/Math" ∈ lw_g) (w4 : Cond.code Lib.Math.min.name Lib.Math.min.code 2 (some .int) ∈ lw_g) (hd : decode cc pc = .ok (.invokestatic idx, 3)) (hr : (st.map fun v => v.category).sum ≤ 8) (k : Sat X (pc + 3) L (.int (if y < x then y else x) :: st) h) : Sat X pc L (.int y :: .int x :: st) h := by
  obtain ⟨E, pg, ev, R, s, m, args, below, meth, c, kc, ks, Q⟩ := X
  obtain ⟨hx, hb, hml, hown, hts, hK, hfr, hlo, hkc, hks⟩ := C
  intro ls H locs a b z
  have hr' : ((st.map (aw_v E.2.2.2.1)).map fun v => v.category).sum ≤ 8 := by rw [List.map_map, show ((fun v : Value => v.category) ∘ aw_v E.2.2.2.1) = fun v => v.category from funext (fun v => aw_v_cat _ v)]; exact hr
  exact va_mmin hx hb (by rw [a.1]) hown (hts _ w1) (hts _ w2) (hts _ w3) (hts _ w4) (by omega) (by omega) hkc hks hd (k ls H locs a b z)
end OPS
