/-! THE STATE: what the 68 cells hold, as functions; hp S the world that holds S -/
abbrev st_S : Type := (Nat → Nat → Int32) × (Nat → Nat → Int32) × (Nat → Nat → Int64)
def kd (p : Nat) : Nat := [5, 0, 10, 2, 13, 0, 10, 0, 10, 0, 10, 0, 10, 0, 10, 0, 10, 0, 10, 0, 10, 0, 10, 2, 13, 0, 10, 0, 10, 0, 10, 0, 10, 0, 10, 0, 10, 0, 10, 0, 10, 4, 12, 0, 10, 1, 10, 10, 10, 14, 3, 11, 3, 11, 3, 11, 3, 11, 6, 10, 10, 11, 10, 10, 10, 10, 10, 10].getD p 99
def ln (p : Nat) : Nat := [0, 0, 16, 0, 8, 0, 16, 0, 16, 0, 16, 0, 16, 0, 16, 0, 16, 0, 16, 0, 16, 0, 16, 0, 8, 0, 16, 0, 16, 0, 16, 0, 16, 0, 16, 0, 16, 0, 16, 0, 16, 0, 110, 0, 16, 0, 64, 64, 64, 4, 0, 24, 0, 24, 0, 24, 0, 24, 0, 1617, 110, 96, 4, 4, 64, 80, 3, 64].getD p 0
def st_c (S : st_S) (p : Nat) : aw_E := match kd p with
  | 0 => .inr (0, [.int (S.1 p 0), .int (S.1 p 1), .ref (p + 1), .int (S.1 p 3), .int (S.1 p 4), .int (S.1 p 5)])
  | 1 => .inr (1, [.ref (1), .ref (46), .ref (47), .ref (48), .int (S.1 p 4), .int (S.1 p 5), .int (S.1 p 6), .int (S.1 p 7)])
  | 2 => .inr (2, [.ref (p + 1), .int (S.1 p 1), .int (S.1 p 2)])
  | 3 => .inr (3, [.int (S.1 p 0), .int (S.1 p 1), .int (S.1 p 2), .ref (p + 1)])
  | 4 => .inr (4, [.ref (42), .int (S.1 p 1), .int (S.1 p 2)])
  | 5 => .inr (5, [.ref (45), .ref (1), .ref (3), .ref (21), .ref (23), .int (S.1 p 5), .ref (41), .ref (43), .ref (49)])
  | 6 => .inr (6, [.ref (59), .int (S.1 p 1), .ref (60), .int (S.1 p 3), .ref (61), .ref (62), .ref (63), .ref (64), .int (S.1 p 8), .int (S.1 p 9), .int (S.1 p 10), .int (S.1 p 11), .ref (65), .ref (66), .ref (67)])
  | 10 => .inl (0, ln p, .inl (S.2.1 p))
  | 11 => .inl (1, ln p, .inr (.inl (S.2.2 p)))
  | 12 => .inl (2, ln p, .inl (S.2.1 p))
  | 13 => .inl (3, 8, .inr (.inr (.inr (.inr (fun j => if j < 8 then some (p + 1 + 2 * j) else none)))))
  | _ => .inl (4, 4, .inr (.inr (.inr (.inr (fun j => if j < 4 then some (p + 1 + 2 * j) else none)))))
def hp (S : st_S) : aw_H := (List.range 68).map (st_c S)
theorem hp_get (S : st_S) {p : Nat} (h : p < 68) : (hp S)[p]? = some (st_c S p) := by
  simp [hp, h]
theorem hp_set {S S' : st_S} {p : Nat} {c : aw_E} (hc : st_c S' p = c) (ho : ∀ q, q ≠ p → st_c S' q = st_c S q) : (hp S).set p c = hp S' := by
  apply List.ext_getElem?
  intro i
  rw [List.getElem?_set]
  by_cases hi : p = i
  · subst hi
    by_cases hl : p < 68
    · simp [hp, hl, hc]
    · simp [hp, hl]
  · rw [if_neg hi]
    by_cases hl : i < 68
    · rw [hp_get S hl, hp_get S' hl, ho i (fun q => hi q.symm)]
    · simp [hp, hl]
def sI (S : st_S) (p k : Nat) (v : Int32) : st_S := (fun q j => if q = p ∧ j = k then v else S.1 q j, S.2.1, S.2.2)
def sA (S : st_S) (p j : Nat) (v : Int32) : st_S := (S.1, fun q => if q = p then upd (S.2.1 p) j v else S.2.1 q, S.2.2)
def sF (S : st_S) (p : Nat) (f : Nat → Int32) : st_S := (S.1, fun q => if q = p then f else S.2.1 q, S.2.2)
def sL (S : st_S) (p j : Nat) (v : Int64) : st_S := (S.1, S.2.1, fun q => if q = p then vp_updL (S.2.2 p) j v else S.2.2 q)
def sG (S : st_S) (p : Nat) (f : Nat → Int64) : st_S := (S.1, S.2.1, fun q => if q = p then f else S.2.2 q)
theorem sA_F (S : st_S) (p j : Nat) (v : Int32) : sA S p j v = sF S p (upd (S.2.1 p) j v) := rfl
theorem sL_G (S : st_S) (p j : Nat) (v : Int64) : sL S p j v = sG S p (vp_updL (S.2.2 p) j v) := rfl
theorem sF_F (S : st_S) (p : Nat) (f g : Nat → Int32) : sF (sF S p f) p g = sF S p g := by
  unfold sF
  refine Prod.ext rfl (Prod.ext (funext fun q => ?_) rfl)
  by_cases h : q = p <;> simp [h]
theorem sF_self (S : st_S) (p : Nat) : sF S p (S.2.1 p) = S := by
  unfold sF
  refine Prod.ext rfl (Prod.ext (funext fun q => ?_) rfl)
  by_cases h : q = p <;> simp [h]
theorem sF_at (S : st_S) (p : Nat) (f : Nat → Int32) : (sF S p f).2.1 p = f := by simp [sF]
theorem sF_ne (S : st_S) {p q : Nat} (f : Nat → Int32) (h : q ≠ p) : (sF S p f).2.1 q = S.2.1 q := by simp [sF, h]
theorem sF_1 (S : st_S) (p : Nat) (f : Nat → Int32) : (sF S p f).1 = S.1 := rfl
theorem sF_3 (S : st_S) (p : Nat) (f : Nat → Int32) : (sF S p f).2.2 = S.2.2 := rfl
theorem sI_2 (S : st_S) (p k : Nat) (v : Int32) : (sI S p k v).2 = S.2 := rfl
theorem sI_at (S : st_S) (p k : Nat) (v : Int32) : (sI S p k v).1 p k = v := by simp [sI]
theorem sI_ne (S : st_S) {p k q j : Nat} (v : Int32) (h : ¬ (q = p ∧ j = k)) : (sI S p k v).1 q j = S.1 q j := by simp [sI, h]
theorem kd_lt {p c : Nat} (h : kd p = c) (hc : c < 99) : p < 68 := by
  apply Decidable.byContradiction
  intro hp
  have : kd p = 99 := by
    unfold kd
    rw [List.getD_eq_getElem?_getD, List.getElem?_eq_none (by simp only [List.length_cons, List.length_nil]; omega)]
    rfl
  omega
theorem st_r0 (S : st_S) {p : Nat} (hk : kd p = 0) : st_c S p = .inr (0, [.int (S.1 p 0), .int (S.1 p 1), .ref (p + 1), .int (S.1 p 3), .int (S.1 p 4), .int (S.1 p 5)]) := by unfold st_c; simp only [hk]
theorem st_r1 (S : st_S) {p : Nat} (hk : kd p = 1) : st_c S p = .inr (1, [.ref (1), .ref (46), .ref (47), .ref (48), .int (S.1 p 4), .int (S.1 p 5), .int (S.1 p 6), .int (S.1 p 7)]) := by unfold st_c; simp only [hk]
theorem st_r2 (S : st_S) {p : Nat} (hk : kd p = 2) : st_c S p = .inr (2, [.ref (p + 1), .int (S.1 p 1), .int (S.1 p 2)]) := by unfold st_c; simp only [hk]
theorem st_r3 (S : st_S) {p : Nat} (hk : kd p = 3) : st_c S p = .inr (3, [.int (S.1 p 0), .int (S.1 p 1), .int (S.1 p 2), .ref (p + 1)]) := by unfold st_c; simp only [hk]
theorem st_r4 (S : st_S) {p : Nat} (hk : kd p = 4) : st_c S p = .inr (4, [.ref (42), .int (S.1 p 1), .int (S.1 p 2)]) := by unfold st_c; simp only [hk]
theorem st_r5 (S : st_S) {p : Nat} (hk : kd p = 5) : st_c S p = .inr (5, [.ref (45), .ref (1), .ref (3), .ref (21), .ref (23), .int (S.1 p 5), .ref (41), .ref (43), .ref (49)]) := by unfold st_c; simp only [hk]
theorem st_r6 (S : st_S) {p : Nat} (hk : kd p = 6) : st_c S p = .inr (6, [.ref (59), .int (S.1 p 1), .ref (60), .int (S.1 p 3), .ref (61), .ref (62), .ref (63), .ref (64), .int (S.1 p 8), .int (S.1 p 9), .int (S.1 p 10), .int (S.1 p 11), .ref (65), .ref (66), .ref (67)]) := by unfold st_c; simp only [hk]
def oI (ci k : Nat) : Bool := [(0, 0), (0, 1), (0, 3), (0, 4), (0, 5), (1, 4), (1, 5), (1, 6), (1, 7), (2, 1), (2, 2), (3, 0), (3, 1), (3, 2), (4, 1), (4, 2), (5, 5), (6, 1), (6, 3), (6, 8), (6, 9), (6, 10), (6, 11)].contains (ci, k)
def rf (p ci k : Nat) : Nat := match ci, k with
  | 0, 2 => p + 1
  | 1, 0 => 1
  | 1, 1 => 46
  | 1, 2 => 47
  | 1, 3 => 48
  | 2, 0 => p + 1
  | 3, 3 => p + 1
  | 4, 0 => 42
  | 5, 0 => 45
  | 5, 1 => 1
  | 5, 2 => 3
  | 5, 3 => 21
  | 5, 4 => 23
  | 5, 6 => 41
  | 5, 7 => 43
  | 5, 8 => 49
  | 6, 0 => 59
  | 6, 2 => 60
  | 6, 4 => 61
  | 6, 5 => 62
  | 6, 6 => 63
  | 6, 7 => 64
  | 6, 12 => 65
  | 6, 13 => 66
  | 6, 14 => 67
  | _, _ => 0
def oR (ci k : Nat) : Bool := [(0, 2), (1, 0), (1, 1), (1, 2), (1, 3), (2, 0), (3, 3), (4, 0), (5, 0), (5, 1), (5, 2), (5, 3), (5, 4), (5, 6), (5, 7), (5, 8), (6, 0), (6, 2), (6, 4), (6, 5), (6, 6), (6, 7), (6, 12), (6, 13), (6, 14)].contains (ci, k)
theorem oI_e {ci k : Nat} (h : oI ci k = true) : (ci = 0 ∧ k = 0) ∨ (ci = 0 ∧ k = 1) ∨ (ci = 0 ∧ k = 3) ∨ (ci = 0 ∧ k = 4) ∨ (ci = 0 ∧ k = 5) ∨ (ci = 1 ∧ k = 4) ∨ (ci = 1 ∧ k = 5) ∨ (ci = 1 ∧ k = 6) ∨ (ci = 1 ∧ k = 7) ∨ (ci = 2 ∧ k = 1) ∨ (ci = 2 ∧ k = 2) ∨ (ci = 3 ∧ k = 0) ∨ (ci = 3 ∧ k = 1) ∨ (ci = 3 ∧ k = 2) ∨ (ci = 4 ∧ k = 1) ∨ (ci = 4 ∧ k = 2) ∨ (ci = 5 ∧ k = 5) ∨ (ci = 6 ∧ k = 1) ∨ (ci = 6 ∧ k = 3) ∨ (ci = 6 ∧ k = 8) ∨ (ci = 6 ∧ k = 9) ∨ (ci = 6 ∧ k = 10) ∨ (ci = 6 ∧ k = 11) := by
  simpa [oI] using h
theorem oR_e {ci k : Nat} (h : oR ci k = true) : (ci = 0 ∧ k = 2) ∨ (ci = 1 ∧ k = 0) ∨ (ci = 1 ∧ k = 1) ∨ (ci = 1 ∧ k = 2) ∨ (ci = 1 ∧ k = 3) ∨ (ci = 2 ∧ k = 0) ∨ (ci = 3 ∧ k = 3) ∨ (ci = 4 ∧ k = 0) ∨ (ci = 5 ∧ k = 0) ∨ (ci = 5 ∧ k = 1) ∨ (ci = 5 ∧ k = 2) ∨ (ci = 5 ∧ k = 3) ∨ (ci = 5 ∧ k = 4) ∨ (ci = 5 ∧ k = 6) ∨ (ci = 5 ∧ k = 7) ∨ (ci = 5 ∧ k = 8) ∨ (ci = 6 ∧ k = 0) ∨ (ci = 6 ∧ k = 2) ∨ (ci = 6 ∧ k = 4) ∨ (ci = 6 ∧ k = 5) ∨ (ci = 6 ∧ k = 6) ∨ (ci = 6 ∧ k = 7) ∨ (ci = 6 ∧ k = 12) ∨ (ci = 6 ∧ k = 13) ∨ (ci = 6 ∧ k = 14) := by
  simpa [oR] using h
theorem hq_I {S : st_S} {p ci k : Nat} {K : Int32 → Prop} (hk : kd p = ci) (ho : oI ci k = true) : sg_I (hp S) p ci k K = K (S.1 p k) := by
  unfold sg_I
  rcases oI_e ho with ⟨rfl, rfl⟩ | ⟨rfl, rfl⟩ | ⟨rfl, rfl⟩ | ⟨rfl, rfl⟩ | ⟨rfl, rfl⟩ | ⟨rfl, rfl⟩ | ⟨rfl, rfl⟩ | ⟨rfl, rfl⟩ | ⟨rfl, rfl⟩ | ⟨rfl, rfl⟩ | ⟨rfl, rfl⟩ | ⟨rfl, rfl⟩ | ⟨rfl, rfl⟩ | ⟨rfl, rfl⟩ | ⟨rfl, rfl⟩ | ⟨rfl, rfl⟩ | ⟨rfl, rfl⟩ | ⟨rfl, rfl⟩ | ⟨rfl, rfl⟩ | ⟨rfl, rfl⟩ | ⟨rfl, rfl⟩ | ⟨rfl, rfl⟩ | ⟨rfl, rfl⟩ <;> (rw [hp_get S (kd_lt hk (by decide))]; unfold st_c; rw [hk]; simp)
theorem hq_R {S : st_S} {p ci k : Nat} {K : Nat → Prop} (hk : kd p = ci) (ho : oR ci k = true) : sg_R (hp S) p ci k K = K (rf p ci k) := by
  unfold sg_R
  rcases oR_e ho with ⟨rfl, rfl⟩ | ⟨rfl, rfl⟩ | ⟨rfl, rfl⟩ | ⟨rfl, rfl⟩ | ⟨rfl, rfl⟩ | ⟨rfl, rfl⟩ | ⟨rfl, rfl⟩ | ⟨rfl, rfl⟩ | ⟨rfl, rfl⟩ | ⟨rfl, rfl⟩ | ⟨rfl, rfl⟩ | ⟨rfl, rfl⟩ | ⟨rfl, rfl⟩ | ⟨rfl, rfl⟩ | ⟨rfl, rfl⟩ | ⟨rfl, rfl⟩ | ⟨rfl, rfl⟩ | ⟨rfl, rfl⟩ | ⟨rfl, rfl⟩ | ⟨rfl, rfl⟩ | ⟨rfl, rfl⟩ | ⟨rfl, rfl⟩ | ⟨rfl, rfl⟩ | ⟨rfl, rfl⟩ | ⟨rfl, rfl⟩ <;> (rw [hp_get S (kd_lt hk (by decide))]; unfold st_c; rw [hk]; simp [rf])
theorem st_o {S S' : st_S} {q : Nat} (h1 : ∀ k, S'.1 q k = S.1 q k) (h2 : S'.2.1 q = S.2.1 q) (h3 : S'.2.2 q = S.2.2 q) : st_c S' q = st_c S q := by
  unfold st_c
  simp only [h1, h2, h3]
theorem hq_P {S : st_S} {p ci k : Nat} {v : Int32} {K : aw_H → Prop} (hk : kd p = ci) (ho : oI ci k = true) : sp_I (hp S) p ci k v K = K (hp (sI S p k v)) := by
  have e : ∀ fs, st_c S p = .inr (ci, fs) → k < fs.length → st_c (sI S p k v) p = .inr (ci, fs.set k (.int v)) → sp_I (hp S) p ci k v K = K (hp (sI S p k v)) := by
    intro fs h1 h2 h3
    unfold sp_I
    rw [hp_get S (kd_lt hk (by rcases oI_e ho with ⟨rfl, rfl⟩ | ⟨rfl, rfl⟩ | ⟨rfl, rfl⟩ | ⟨rfl, rfl⟩ | ⟨rfl, rfl⟩ | ⟨rfl, rfl⟩ | ⟨rfl, rfl⟩ | ⟨rfl, rfl⟩ | ⟨rfl, rfl⟩ | ⟨rfl, rfl⟩ | ⟨rfl, rfl⟩ | ⟨rfl, rfl⟩ | ⟨rfl, rfl⟩ | ⟨rfl, rfl⟩ | ⟨rfl, rfl⟩ | ⟨rfl, rfl⟩ | ⟨rfl, rfl⟩ | ⟨rfl, rfl⟩ | ⟨rfl, rfl⟩ | ⟨rfl, rfl⟩ | ⟨rfl, rfl⟩ | ⟨rfl, rfl⟩ | ⟨rfl, rfl⟩ <;> decide)), h1]
    simp only [true_and]
    rw [hp_set (S := S) h3 (fun q hq => st_o (fun j => sI_ne S v (fun z => hq z.1)) rfl rfl)]
    simp [h2]
  rcases oI_e ho with ⟨rfl, rfl⟩ | ⟨rfl, rfl⟩ | ⟨rfl, rfl⟩ | ⟨rfl, rfl⟩ | ⟨rfl, rfl⟩ | ⟨rfl, rfl⟩ | ⟨rfl, rfl⟩ | ⟨rfl, rfl⟩ | ⟨rfl, rfl⟩ | ⟨rfl, rfl⟩ | ⟨rfl, rfl⟩ | ⟨rfl, rfl⟩ | ⟨rfl, rfl⟩ | ⟨rfl, rfl⟩ | ⟨rfl, rfl⟩ | ⟨rfl, rfl⟩ | ⟨rfl, rfl⟩ | ⟨rfl, rfl⟩ | ⟨rfl, rfl⟩ | ⟨rfl, rfl⟩ | ⟨rfl, rfl⟩ | ⟨rfl, rfl⟩ | ⟨rfl, rfl⟩
  · exact e _ (st_r0 S hk) (by simp) (by rw [st_r0 _ hk]; simp [sI])
  · exact e _ (st_r0 S hk) (by simp) (by rw [st_r0 _ hk]; simp [sI])
  · exact e _ (st_r0 S hk) (by simp) (by rw [st_r0 _ hk]; simp [sI])
  · exact e _ (st_r0 S hk) (by simp) (by rw [st_r0 _ hk]; simp [sI])
  · exact e _ (st_r0 S hk) (by simp) (by rw [st_r0 _ hk]; simp [sI])
  · exact e _ (st_r1 S hk) (by simp) (by rw [st_r1 _ hk]; simp [sI])
  · exact e _ (st_r1 S hk) (by simp) (by rw [st_r1 _ hk]; simp [sI])
  · exact e _ (st_r1 S hk) (by simp) (by rw [st_r1 _ hk]; simp [sI])
  · exact e _ (st_r1 S hk) (by simp) (by rw [st_r1 _ hk]; simp [sI])
  · exact e _ (st_r2 S hk) (by simp) (by rw [st_r2 _ hk]; simp [sI])
  · exact e _ (st_r2 S hk) (by simp) (by rw [st_r2 _ hk]; simp [sI])
  · exact e _ (st_r3 S hk) (by simp) (by rw [st_r3 _ hk]; simp [sI])
  · exact e _ (st_r3 S hk) (by simp) (by rw [st_r3 _ hk]; simp [sI])
  · exact e _ (st_r3 S hk) (by simp) (by rw [st_r3 _ hk]; simp [sI])
  · exact e _ (st_r4 S hk) (by simp) (by rw [st_r4 _ hk]; simp [sI])
  · exact e _ (st_r4 S hk) (by simp) (by rw [st_r4 _ hk]; simp [sI])
  · exact e _ (st_r5 S hk) (by simp) (by rw [st_r5 _ hk]; simp [sI])
  · exact e _ (st_r6 S hk) (by simp) (by rw [st_r6 _ hk]; simp [sI])
  · exact e _ (st_r6 S hk) (by simp) (by rw [st_r6 _ hk]; simp [sI])
  · exact e _ (st_r6 S hk) (by simp) (by rw [st_r6 _ hk]; simp [sI])
  · exact e _ (st_r6 S hk) (by simp) (by rw [st_r6 _ hk]; simp [sI])
  · exact e _ (st_r6 S hk) (by simp) (by rw [st_r6 _ hk]; simp [sI])
  · exact e _ (st_r6 S hk) (by simp) (by rw [st_r6 _ hk]; simp [sI])
theorem hv_O {S : st_S} {p ci : Nat} {A : Prop} (hk : kd p = ci) (hc : ci < 7) : sv_O (hp S) p ci A = A := by
  unfold sv_O
  rw [hp_get S (kd_lt hk (by omega))]
  unfold st_c
  rw [hk]
  rcases (show ci = 0 ∨ ci = 1 ∨ ci = 2 ∨ ci = 3 ∨ ci = 4 ∨ ci = 5 ∨ ci = 6 by omega) with rfl | rfl | rfl | rfl | rfl | rfl | rfl <;> simp
theorem ha_I {S : st_S} {p : Nat} {i : Int32} {K : Int32 → Prop} (hk : kd p = 10) : sa_I (hp S) p i K = (vp_in i (ln p) ∧ K (S.2.1 p i.toNatClampNeg)) := by
  unfold sa_I
  rw [hp_get S (kd_lt hk (by decide))]
  unfold st_c
  rw [hk]
  simp
theorem ha_C {S : st_S} {p : Nat} {i : Int32} {K : Int32 → Prop} (hk : kd p = 12) : sa_C (hp S) p i K = (vp_in i (ln p) ∧ K (S.2.1 p i.toNatClampNeg)) := by
  unfold sa_C
  rw [hp_get S (kd_lt hk (by decide))]
  unfold st_c
  rw [hk]
  simp
theorem ha_L {S : st_S} {p : Nat} {i : Int32} {K : Int64 → Prop} (hk : kd p = 11) : sa_L (hp S) p i K = (vp_in i (ln p) ∧ K (S.2.2 p i.toNatClampNeg)) := by
  unfold sa_L
  rw [hp_get S (kd_lt hk (by decide))]
  unfold st_c
  rw [hk]
  simp
theorem vp_in_lt {i : Int32} {n : Nat} (h : vp_in i n) : i.toNatClampNeg < n := Nat.not_le.mp fun q => h (Or.inr q)
theorem ha_R3 {S : st_S} {p : Nat} {i : Int32} {K : Nat → Prop} (hk : kd p = 13) : sa_R (hp S) 3 p i K = (vp_in i 8 ∧ K (p + 1 + 2 * i.toNatClampNeg)) := by
  unfold sa_R
  rw [hp_get S (kd_lt hk (by decide))]
  unfold st_c
  rw [hk]
  simp only [true_and, eq_iff_iff, and_congr_right_iff]
  intro h
  rw [if_pos (vp_in_lt h)]
theorem ha_R4 {S : st_S} {p : Nat} {i : Int32} {K : Nat → Prop} (hk : kd p = 14) : sa_R (hp S) 4 p i K = (vp_in i 4 ∧ K (p + 1 + 2 * i.toNatClampNeg)) := by
  unfold sa_R
  rw [hp_get S (kd_lt hk (by decide))]
  unfold st_c
  rw [hk]
  simp only [true_and, eq_iff_iff, and_congr_right_iff]
  intro h
  rw [if_pos (vp_in_lt h)]
theorem ha_N {S : st_S} {p : Nat} {K : Int32 → Prop} (hk : kd p = 10 ∨ kd p = 11) : sa_N (hp S) p K = K (Int32.ofNat (ln p)) := by
  unfold sa_N
  rcases hk with hk | hk <;>
  (rw [hp_get S (kd_lt hk (by decide))]
   unfold st_c
   rw [hk]
   simp)
theorem hs_I {S : st_S} {p : Nat} {i x : Int32} {K : aw_H → Prop} (hk : kd p = 10) : ss_I (hp S) p i x K = (vp_in i (ln p) ∧ K (hp (sA S p i.toNatClampNeg x))) := by
  have e1 : st_c S p = .inl (0, ln p, .inl (S.2.1 p)) := by unfold st_c; simp only [hk]
  have e2 : st_c (sA S p i.toNatClampNeg x) p = .inl (0, ln p, .inl (upd (S.2.1 p) i.toNatClampNeg x)) := by unfold st_c; simp [hk, sA]
  unfold ss_I
  rw [hp_get S (kd_lt hk (by decide)), e1]
  simp only [true_and]
  rw [hp_set (S := S) e2 (fun q hq => st_o (fun j => rfl) (by simp [sA, hq]) rfl)]
theorem hs_C {S : st_S} {p : Nat} {i x : Int32} {K : aw_H → Prop} (hk : kd p = 12) : ss_C (hp S) p i x K = (vp_in i (ln p) ∧ K (hp (sA S p i.toNatClampNeg (vp_nar .char x)))) := by
  have e1 : st_c S p = .inl (2, ln p, .inl (S.2.1 p)) := by unfold st_c; simp only [hk]
  have e2 : st_c (sA S p i.toNatClampNeg (vp_nar .char x)) p = .inl (2, ln p, .inl (upd (S.2.1 p) i.toNatClampNeg (vp_nar .char x))) := by unfold st_c; simp [hk, sA]
  unfold ss_C
  rw [hp_get S (kd_lt hk (by decide)), e1]
  simp only [true_and]
  rw [hp_set (S := S) e2 (fun q hq => st_o (fun j => rfl) (by simp [sA, hq]) rfl)]
theorem hs_L {S : st_S} {p : Nat} {i : Int32} {x : Int64} {K : aw_H → Prop} (hk : kd p = 11) : ss_L (hp S) p i x K = (vp_in i (ln p) ∧ K (hp (sL S p i.toNatClampNeg x))) := by
  have e1 : st_c S p = .inl (1, ln p, .inr (.inl (S.2.2 p))) := by unfold st_c; simp only [hk]
  have e2 : st_c (sL S p i.toNatClampNeg x) p = .inl (1, ln p, .inr (.inl (vp_updL (S.2.2 p) i.toNatClampNeg x))) := by unfold st_c; simp [hk, sL]
  unfold ss_L
  rw [hp_get S (kd_lt hk (by decide)), e1]
  simp only [true_and]
  rw [hp_set (S := S) e2 (fun q hq => st_o (fun j => rfl) rfl (by simp [sL, hq]))]
theorem hc_I {S : st_S} {ps pd : Nat} {sp dp n : Int32} {K : aw_H → Prop} (h1 : kd ps = 10) (h2 : kd pd = 10) : sc_I (hp S) ps sp pd dp n K = (¬ sp < 0 ∧ ¬ dp < 0 ∧ ¬ n < 0 ∧ sp.toNatClampNeg + n.toNatClampNeg ≤ ln ps ∧ dp.toNatClampNeg + n.toNatClampNeg ≤ ln pd ∧ K (hp (sF S pd (va_cpy (S.2.1 ps) (S.2.1 pd) sp.toNatClampNeg dp.toNatClampNeg n.toNatClampNeg)))) := by
  have e1 : st_c S ps = .inl (0, ln ps, .inl (S.2.1 ps)) := by unfold st_c; simp only [h1]
  have e2 : st_c S pd = .inl (0, ln pd, .inl (S.2.1 pd)) := by unfold st_c; simp only [h2]
  have e3 : st_c (sF S pd (va_cpy (S.2.1 ps) (S.2.1 pd) sp.toNatClampNeg dp.toNatClampNeg n.toNatClampNeg)) pd = .inl (0, ln pd, .inl (va_cpy (S.2.1 ps) (S.2.1 pd) sp.toNatClampNeg dp.toNatClampNeg n.toNatClampNeg)) := by unfold st_c; simp [h2, sF]
  unfold sc_I
  rw [hp_get S (kd_lt h1 (by decide)), hp_get S (kd_lt h2 (by decide)), e1, e2]
  simp only [true_and]
  rw [hp_set (S := S) e3 (fun q hq => st_o (fun j => rfl) (by simp [sF, hq]) rfl)]
theorem hc_L {S : st_S} {ps pd : Nat} {sp dp n : Int32} {K : aw_H → Prop} (h1 : kd ps = 11) (h2 : kd pd = 11) : sc_L (hp S) ps sp pd dp n K = (¬ sp < 0 ∧ ¬ dp < 0 ∧ ¬ n < 0 ∧ sp.toNatClampNeg + n.toNatClampNeg ≤ ln ps ∧ dp.toNatClampNeg + n.toNatClampNeg ≤ ln pd ∧ K (hp (sG S pd (va_cpy (S.2.2 ps) (S.2.2 pd) sp.toNatClampNeg dp.toNatClampNeg n.toNatClampNeg)))) := by
  have e1 : st_c S ps = .inl (1, ln ps, .inr (.inl (S.2.2 ps))) := by unfold st_c; simp only [h1]
  have e2 : st_c S pd = .inl (1, ln pd, .inr (.inl (S.2.2 pd))) := by unfold st_c; simp only [h2]
  have e3 : st_c (sG S pd (va_cpy (S.2.2 ps) (S.2.2 pd) sp.toNatClampNeg dp.toNatClampNeg n.toNatClampNeg)) pd = .inl (1, ln pd, .inr (.inl (va_cpy (S.2.2 ps) (S.2.2 pd) sp.toNatClampNeg dp.toNatClampNeg n.toNatClampNeg))) := by unfold st_c; simp [h2, sG]
  unfold sc_L
  rw [hp_get S (kd_lt h1 (by decide)), hp_get S (kd_lt h2 (by decide)), e1, e2]
  simp only [true_and]
  rw [hp_set (S := S) e3 (fun q hq => st_o (fun j => rfl) rfl (by simp [sG, hq]))]
/-- the state at the start -/
def S_0 : st_S := (fun p k => if kd p = 0 then (if k = 0 then 3 else if k = 5 then 1 else 0) else 0, fun p => if p = 59 then upd (upd (fun _ => 0) 0 3) 4 1 else if p = 63 then upd (upd (upd (upd (fun _ => 0) 0 (-4)) 1 (-4)) 2 (-4)) 3 (-4) else fun _ => 0, fun _ _ => 0)
theorem hp_0_eq : hp_0 = hp S_0 := by
  apply List.ext_getElem?
  intro i
  by_cases hi : i < 68
  · rw [hp_get S_0 hi]
    have e8 : ∀ a : Nat, va_up (va_up (va_up (va_up (va_up (va_up (va_up (va_up (fun _ => none) 0 (some (a + 1))) 1 (some (a + 3))) 2 (some (a + 5))) 3 (some (a + 7))) 4 (some (a + 9))) 5 (some (a + 11))) 6 (some (a + 13))) 7 (some (a + 15)) = (fun j => if j < 8 then some (a + 1 + 2 * j) else none) := by
      intro a
      funext j
      unfold va_up
      by_cases h : j < 8
      · rw [if_pos h]
        rcases (show j = 0 ∨ j = 1 ∨ j = 2 ∨ j = 3 ∨ j = 4 ∨ j = 5 ∨ j = 6 ∨ j = 7 by omega) with rfl | rfl | rfl | rfl | rfl | rfl | rfl | rfl <;> simp
      · rw [if_neg h]
        simp [show ¬ j = 7 by omega, show ¬ j = 6 by omega, show ¬ j = 5 by omega, show ¬ j = 4 by omega, show ¬ j = 3 by omega, show ¬ j = 2 by omega, show ¬ j = 1 by omega, show ¬ j = 0 by omega]
    have e4 : ∀ a : Nat, va_up (va_up (va_up (va_up (fun _ => none) 0 (some (a + 1))) 1 (some (a + 3))) 2 (some (a + 5))) 3 (some (a + 7)) = (fun j => if j < 4 then some (a + 1 + 2 * j) else none) := by
      intro a
      funext j
      unfold va_up
      by_cases h : j < 4
      · rw [if_pos h]
        rcases (show j = 0 ∨ j = 1 ∨ j = 2 ∨ j = 3 by omega) with rfl | rfl | rfl | rfl <;> simp
      · rw [if_neg h]
        simp [show ¬ j = 3 by omega, show ¬ j = 2 by omega, show ¬ j = 1 by omega, show ¬ j = 0 by omega]
    have f4 := e8 4
    have f24 := e8 24
    have f49 := e4 49
    match i, hi with
    | 0, _ => rfl
    | 1, _ => rfl
    | 2, _ => rfl
    | 3, _ => rfl
    | 4, _ => exact congrArg (fun f => some (Sum.inl (3, 8, Sum.inr (Sum.inr (Sum.inr (Sum.inr f)))))) f4
    | 5, _ => rfl
    | 6, _ => rfl
    | 7, _ => rfl
    | 8, _ => rfl
    | 9, _ => rfl
    | 10, _ => rfl
    | 11, _ => rfl
    | 12, _ => rfl
    | 13, _ => rfl
    | 14, _ => rfl
    | 15, _ => rfl
    | 16, _ => rfl
    | 17, _ => rfl
    | 18, _ => rfl
    | 19, _ => rfl
    | 20, _ => rfl
    | 21, _ => rfl
    | 22, _ => rfl
    | 23, _ => rfl
    | 24, _ => exact congrArg (fun f => some (Sum.inl (3, 8, Sum.inr (Sum.inr (Sum.inr (Sum.inr f)))))) f24
    | 25, _ => rfl
    | 26, _ => rfl
    | 27, _ => rfl
    | 28, _ => rfl
    | 29, _ => rfl
    | 30, _ => rfl
    | 31, _ => rfl
    | 32, _ => rfl
    | 33, _ => rfl
    | 34, _ => rfl
    | 35, _ => rfl
    | 36, _ => rfl
    | 37, _ => rfl
    | 38, _ => rfl
    | 39, _ => rfl
    | 40, _ => rfl
    | 41, _ => rfl
    | 42, _ => rfl
    | 43, _ => rfl
    | 44, _ => rfl
    | 45, _ => rfl
    | 46, _ => rfl
    | 47, _ => rfl
    | 48, _ => rfl
    | 49, _ => exact congrArg (fun f => some (Sum.inl (4, 4, Sum.inr (Sum.inr (Sum.inr (Sum.inr f)))))) f49
    | 50, _ => rfl
    | 51, _ => rfl
    | 52, _ => rfl
    | 53, _ => rfl
    | 54, _ => rfl
    | 55, _ => rfl
    | 56, _ => rfl
    | 57, _ => rfl
    | 58, _ => rfl
    | 59, _ => rfl
    | 60, _ => rfl
    | 61, _ => rfl
    | 62, _ => rfl
    | 63, _ => rfl
    | 64, _ => rfl
    | 65, _ => rfl
    | 66, _ => rfl
    | 67, _ => rfl
    | i + 68, hi => omega
  · rw [List.getElem?_eq_none (by show 68 ≤ i; omega), List.getElem?_eq_none (by simp [hp]; omega)]
