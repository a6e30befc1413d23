/-! THE ABSTRACT WORLD: cells by places 0, 1 ..; a reference is a place; 'ad' says where a place lies -/
abbrev aw_E : Type := (Nat × vp_A) ⊕ (Nat × List Value)
abbrev aw_H : Type := List aw_E
abbrev aw_R : Type := Option Value → aw_H → Prop
abbrev aw_T : Type := List Value → aw_H → aw_R → Prop
def aw_v (ad : Nat → Nat) : Value → Value
  | .ref p => .ref (ad p)
  | .int x => .int x
  | .long x => .long x
  | .float x => .float x
  | .double x => .double x
  | .null => .null
  | .retAddr x => .retAddr x
theorem aw_v_cat (ad : Nat → Nat) (v : Value) : (aw_v ad v).category = v.category := by cases v <;> rfl
def aw_a (ad : Nat → Nat) (a : vp_A) : vp_A := match a with
  | (n, .inl f) => (n, .inl f)
  | (n, .inr (.inl f)) => (n, .inr (.inl f))
  | (n, .inr (.inr (.inl f))) => (n, .inr (.inr (.inl f)))
  | (n, .inr (.inr (.inr (.inl f)))) => (n, .inr (.inr (.inr (.inl f))))
  | (n, .inr (.inr (.inr (.inr f)))) => (n, .inr (.inr (.inr (.inr fun j => (f j).map ad))))
def aw_e (ad : Nat → Nat) (aC : Nat → ClassId) : aw_E → va_E
  | .inl (k, a) => .inl (aC k, aw_a ad a)
  | .inr (ci, fs) => .inr (ci, fs.map (aw_v ad))
def aw_w (ad : Nat → Nat) (aC : Nat → ClassId) (h : aw_H) : va_W := h.mapIdx fun p e => (ad p, aw_e ad aC e)
theorem aw_w_get {ad : Nat → Nat} {aC : Nat → ClassId} {h : aw_H} {p : Nat} {e : aw_E} (hp : h[p]? = some e) : (aw_w ad aC h)[p]? = some (ad p, aw_e ad aC e) := by
  simp [aw_w, List.getElem?_mapIdx, hp]
theorem aw_w_set (ad : Nat → Nat) (aC : Nat → ClassId) (h : aw_H) (p : Nat) (e : aw_E) : aw_w ad aC (h.set p e) = (aw_w ad aC h).set p (ad p, aw_e ad aC e) := by
  apply List.ext_getElem?
  intro i
  simp only [aw_w, List.getElem?_mapIdx, List.getElem?_set, List.length_mapIdx]
  by_cases hi : p = i
  · subst hi
    by_cases hl : p < h.length
    · simp [hl]
    · simp [hl]
  · simp [hi]
/-- the fixed things of a world: launch, classes' numbers, array classes, addresses, what may change -/
abbrev aw_F : Type := Launch × va_G × (Nat → ClassId) × (Nat → Nat) × (Nat → Prop)
def aw_t (aC : Nat → ClassId) : List (ClassId × FieldType) := [(aC 0, .int), (aC 1, .long), (aC 2, .char), (aC 3, .object RX0), (aC 4, .object RX4)]
def aw_W (E : aw_F) (h : aw_H) (H : Heap) : Prop := va_P E.2.1 vwCl (aw_w E.2.2.2.1 E.2.2.1 h) H ∧ va_D E.2.2.2.2 (aw_w E.2.2.2.1 E.2.2.1 h)
/-- locals: a list by places; null: nothing is known of it -/
def aw_l (ad : Nat → Nat) : Nat → List Value → List (Nat × Value)
  | _, [] => []
  | i, .null :: r => aw_l ad (i + 1) r
  | i, .int x :: r => (i, .int x) :: aw_l ad (i + 1) r
  | i, .long x :: r => (i, .long x) :: aw_l ad (i + 1) r
  | i, .float x :: r => (i, .float x) :: aw_l ad (i + 1) r
  | i, .double x :: r => (i, .double x) :: aw_l ad (i + 1) r
  | i, .ref x :: r => (i, .ref (ad x)) :: aw_l ad (i + 1) r
  | i, .retAddr x :: r => (i, .retAddr x) :: aw_l ad (i + 1) r
theorem aw_l_cons (ad : Nat → Nat) (i : Nat) (v : Value) (r : List Value) (hv : v ≠ .null) : aw_l ad i (v :: r) = (i, aw_v ad v) :: aw_l ad (i + 1) r := by
  cases v <;> first | rfl | exact absurd rfl hv
theorem aw_l_mem {ad : Nat → Nat} : ∀ {L : List Value} {i : Nat} {q : Nat × Value}, q ∈ aw_l ad i L ↔ ∃ j v, L[j]? = some v ∧ v ≠ .null ∧ q = (i + j, aw_v ad v)
  | [], i, q => by simp [aw_l]
  | v :: r, i, q => by
    by_cases hv : v = .null
    · subst hv
      rw [show aw_l ad i (.null :: r) = aw_l ad (i + 1) r from rfl, aw_l_mem]
      constructor
      · rintro ⟨j, w, h1, h2, h3⟩
        exact ⟨j + 1, w, by simpa using h1, h2, by rw [h3]; congr 1; omega⟩
      · rintro ⟨j, w, h1, h2, h3⟩
        cases j with
        | zero => simp at h1; exact absurd h1.symm h2
        | succ j => exact ⟨j, w, by simpa using h1, h2, by rw [h3]; congr 1; omega⟩
    · rw [aw_l_cons ad i v r hv, List.mem_cons, aw_l_mem]
      constructor
      · rintro (h | ⟨j, w, h1, h2, h3⟩)
        · exact ⟨0, v, rfl, hv, by simpa using h⟩
        · exact ⟨j + 1, w, by simpa using h1, h2, by rw [h3]; congr 1; omega⟩
      · rintro ⟨j, w, h1, h2, h3⟩
        cases j with
        | zero =>
          simp at h1
          subst h1
          exact Or.inl (by simpa using h3)
        | succ j => exact Or.inr ⟨j, w, by simpa using h1, h2, by rw [h3]; congr 1; omega⟩
theorem lv_mono {ls : Array Slot} {nL : Nat} {l l' : List (Nat × Value)} (h : lv_has ls nL l) (hl : ∀ q ∈ l', q ∈ l) : lv_has ls nL l' := ⟨h.1, h.2.1, fun q hq => h.2.2 q (hl q hq)⟩
/-- a store at i takes away a long that stands ahead of it -/
def aw_k : Value → Value
  | .long _ => .null
  | .double _ => .null
  | .int x => .int x
  | .float x => .float x
  | .ref x => .ref x
  | .null => .null
  | .retAddr x => .retAddr x
def aw_s : List Value → Nat → Value → List Value
  | [], _, _ => []
  | _ :: r, 0, w => w :: r
  | [u], 1, _ => [aw_k u]
  | u :: _ :: r, 1, w => aw_k u :: w :: r
  | u :: r, i + 2, w => u :: aw_s r (i + 1) w
theorem aw_k_or (u : Value) : (aw_k u = u ∧ u.category = 1) ∨ aw_k u = .null := by cases u <;> simp [aw_k, Value.category]
theorem aw_s_get : ∀ (L : List Value) (i : Nat) (w : Value) (j : Nat) (v : Value), (aw_s L i w)[j]? = some v → v ≠ .null → (j = i ∧ v = w) ∨ (j ≠ i ∧ L[j]? = some v ∧ ¬ (j + 1 = i ∧ v.category = 2))
  | [], i, w, j, v, h, _ => by simp [aw_s] at h
  | u :: r, 0, w, j, v, h, hv => by
    cases j with
    | zero => simp [aw_s] at h; exact Or.inl ⟨rfl, h.symm⟩
    | succ j => simp [aw_s] at h; exact Or.inr ⟨by omega, by simpa using h, by omega⟩
  | [u], 1, w, j, v, h, hv => by
    cases j with
    | zero =>
      simp [aw_s] at h
      rcases aw_k_or u with ⟨h1, h2⟩ | h1
      · rw [h1] at h; subst h; exact Or.inr ⟨by omega, rfl, by omega⟩
      · rw [h1] at h; exact absurd h.symm hv
    | succ j => simp [aw_s] at h
  | u :: u2 :: r, 1, w, j, v, h, hv => by
    match j with
    | 0 =>
      simp [aw_s] at h
      rcases aw_k_or u with ⟨h1, h2⟩ | h1
      · rw [h1] at h; subst h; exact Or.inr ⟨by omega, rfl, by omega⟩
      · rw [h1] at h; exact absurd h.symm hv
    | 1 => simp [aw_s] at h; exact Or.inl ⟨rfl, h.symm⟩
    | j + 2 => simp [aw_s] at h; exact Or.inr ⟨by omega, by simpa using h, by omega⟩
  | u :: r, i + 2, w, j, v, h, hv => by
    cases j with
    | zero => simp [aw_s] at h; subst h; exact Or.inr ⟨by omega, rfl, by omega⟩
    | succ j =>
      have h' : (aw_s r (i + 1) w)[j]? = some v := by simpa [aw_s] using h
      rcases aw_s_get r (i + 1) w j v h' hv with ⟨h1, h2⟩ | ⟨h1, h2, h3⟩
      · exact Or.inl ⟨by omega, h2⟩
      · exact Or.inr ⟨by omega, by simpa using h2, by omega⟩
/-- a long takes two places -/
def aw_s2 (L : List Value) (i : Nat) (w : Value) : List Value := (aw_s (L.set (i + 1) .null) i w)
theorem aw_s_has {ad : Nat → Nat} {L : List Value} {i : Nat} {w : Value} {ls : Array Slot} {nL : Nat} (h : lv_has ls nL ((i, aw_v ad w) :: (aw_l ad 0 L).filter (fun q => !(q.1 == i) && !(q.1 + 1 == i && q.2.category == 2)))) : lv_has ls nL (aw_l ad 0 (aw_s L i w)) := by
  refine lv_mono h (fun q hq => ?_)
  obtain ⟨j, v, h1, h2, h3⟩ := aw_l_mem.mp hq
  rcases aw_s_get L i w j v h1 h2 with ⟨e1, e2⟩ | ⟨e1, e2, e3⟩
  · subst e1; subst e2
    rw [h3]
    simp
  · refine List.mem_cons_of_mem _ (List.mem_filter.mpr ⟨aw_l_mem.mpr ⟨j, v, e2, h2, h3⟩, ?_⟩)
    rw [h3]
    simp only [Nat.zero_add, aw_v_cat, Bool.and_eq_true, Bool.not_eq_true', beq_eq_false_iff_ne, ne_eq, Bool.and_eq_false_iff]
    refine ⟨e1, ?_⟩
    by_cases hj : j + 1 = i
    · exact Or.inr (fun hc => e3 ⟨hj, hc⟩)
    · exact Or.inl hj
theorem aw_s2_has {ad : Nat → Nat} {L : List Value} {i : Nat} {w : Value} {ls : Array Slot} {nL : Nat} (h : lv_has ls nL ((i, aw_v ad w) :: (aw_l ad 0 L).filter (fun q => !(q.1 == i) && (!(q.1 == i + 1) && !(q.1 + 1 == i && q.2.category == 2))))) : lv_has ls nL (aw_l ad 0 (aw_s2 L i w)) := by
  refine lv_mono h (fun q hq => ?_)
  obtain ⟨j, v, h1, h2, h3⟩ := aw_l_mem.mp hq
  rcases aw_s_get _ i w j v h1 h2 with ⟨e1, e2⟩ | ⟨e1, e2, e3⟩
  · subst e1; subst e2
    rw [h3]
    simp
  · have hj1 : j ≠ i + 1 := by
      intro hj
      subst hj
      rw [List.getElem?_set] at e2
      simp at e2
      exact h2 e2.2.symm
    have e2' : L[j]? = some v := by rwa [List.getElem?_set_ne (Ne.symm hj1)] at e2
    refine List.mem_cons_of_mem _ (List.mem_filter.mpr ⟨aw_l_mem.mpr ⟨j, v, e2', h2, h3⟩, ?_⟩)
    rw [h3]
    simp only [Nat.zero_add, aw_v_cat, Bool.and_eq_true, Bool.not_eq_true', beq_eq_false_iff_ne, ne_eq, Bool.and_eq_false_iff]
    refine ⟨e1, hj1, ?_⟩
    by_cases hj : j + 1 = i
    · exact Or.inr (fun hc => e3 ⟨hj, hc⟩)
    · exact Or.inl hj
/-- where the machine stands -/
abbrev aw_X : Type := aw_F × Program × Env × Room × State × MethodId × Array Value × List Frame × Method × Code × Nat × Nat × (State → Prop)
/-- from this place with these locals, this stack, this world the machine comes to its end -/
def Sat (X : aw_X) (pc : Nat) (L st : List Value) (h : aw_H) : Prop := match X with
  | (E, p, e, R, s, m, args, below, meth, c, kc, ks, Q) => ∀ (ls : Array Slot) (H : Heap) (locs : List Loc), lv_has ls c.maxLocals (aw_l E.2.2.2.1 0 L) → aw_W E h H → va_S E.2.2.2.2 s.heap H locs → W p E.1 e R s m args below meth c H locs kc ks Q (F0 m pc ls (st.map (aw_v E.2.2.2.1)))
/-- what is known there -/
def aw_C (X : aw_X) (cc : ByteArray) (own : String) (nL d : Nat) : Prop := match X with
  | (E, p, e, R, s, m, args, below, meth, c, kc, ks, Q) => p.tables.exec = Jvm.exec ∧ c.code = cc ∧ c.maxLocals = nL ∧ s.vm.findClass own = some m.cls ∧ (∀ w ∈ lw_g, w.before args s = true) ∧ va_K E.2.1 vwCl (aw_t E.2.2.1) s ∧ d ≤ R.frames ∧ 40 * d ≤ R.locals ∧ kc ≤ R.cells ∧ ks ≤ R.slots
def aw_ok : Option FieldType → Option Value → Prop
  | some .int, some (.int _) => True
  | some .boolean, some (.int v) => v = 0 ∨ v = 1
  | some .long, some (.long _) => True
  | none, none => True
  | _, _ => False
/-- the end: what a return must show -/
def aw_Z (X : aw_X) (cc : ByteArray) (ret : Option FieldType) (Q0 : aw_R) : Prop := match X with
  | (E, p, e, R, s, m, args, below, meth, c, kc, ks, Q) => ∀ (pc : Nat) (ls : Array Slot) (H : Heap) (locs : List Loc) (r : Option Value) (h : aw_H), aw_ok ret r → (match r with
      | some (.int _) => decode cc pc = .ok (.ireturn, 1)
      | some (.long _) => decode cc pc = .ok (.lreturn, 1)
      | none => decode cc pc = .ok (.return_, 1)
      | _ => False) → aw_W E h H → va_S E.2.2.2.2 s.heap H locs → Q0 r h → W p E.1 e R s m args below meth c H locs kc ks Q (F0 m pc ls ((r.map (aw_v E.2.2.2.1)).toList))
theorem Sat.mask {X : aw_X} {pc : Nat} {L L' st : List Value} {h : aw_H} (k : Sat X pc L' st h) (hm : ∀ (i : Nat) (v : Value), L'[i]? = some v → v = .null ∨ L[i]? = some v) : Sat X pc L st h := by
  obtain ⟨E, p, e, R, s, m, args, below, meth, c, kc, ks, Q⟩ := X
  intro ls H locs a b d
  refine k ls H locs (lv_mono a (fun q hq => ?_)) b d
  obtain ⟨j, v, h1, h2, h3⟩ := aw_l_mem.mp hq
  rcases hm j v h1 with e1 | e1
  · exact absurd e1 h2
  · exact aw_l_mem.mpr ⟨j, v, e1, h2, h3⟩
theorem mk_0 : ∀ (i : Nat) (v : Value), ([] : List Value)[i]? = some v → v = .null ∨ ([] : List Value)[i]? = some v := fun i v h => by simp at h
theorem mk_y {L L' : List Value} {u : Value} (k : ∀ (i : Nat) (v : Value), L'[i]? = some v → v = .null ∨ L[i]? = some v) : ∀ (i : Nat) (v : Value), (u :: L')[i]? = some v → v = .null ∨ (u :: L)[i]? = some v := fun i v h => by
  cases i with
  | zero => exact Or.inr (by simpa using h)
  | succ i => simpa using k i v (by simpa using h)
theorem mk_n {L L' : List Value} {u : Value} (k : ∀ (i : Nat) (v : Value), L'[i]? = some v → v = .null ∨ L[i]? = some v) : ∀ (i : Nat) (v : Value), (Value.null :: L')[i]? = some v → v = .null ∨ (u :: L)[i]? = some v := fun i v h => by
  cases i with
  | zero => exact Or.inl (by simpa using h.symm)
  | succ i => simpa using k i v (by simpa using h)
