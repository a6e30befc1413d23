/-! GATES: on numbers; the class's and the reference's gates do the same -/
def inb (a b c : Int32) : Int32 := if a < b then 0 else if c < a then 0 else 1
theorem e_in {a b c : Int32} {h : aw_H} {Q : aw_R} : tr_X7_in [.int a, .int b, .int c] h Q = Q (some (.int (inb a b c))) h := by
  rw [propext tq_X7_in]
  unfold sm_X7_in_0 inb
  split
  · rfl
  · split <;> rfl
theorem inb_1 {a b c : Int32} : inb a b c = 1 ↔ (b ≤ a ∧ a ≤ c) := by
  unfold inb
  by_cases h1 : a < b
  · rw [if_pos h1]
    constructor
    · intro q; exact absurd q (by decide)
    · intro q; rw [Int32.lt_iff_toInt_lt] at h1; have := Int32.le_iff_toInt_le.mp q.1; omega
  · rw [if_neg h1]
    by_cases h2 : c < a
    · rw [if_pos h2]
      constructor
      · intro q; exact absurd q (by decide)
      · intro q; rw [Int32.lt_iff_toInt_lt] at h2; have := Int32.le_iff_toInt_le.mp q.2; omega
    · rw [if_neg h2]
      rw [Int32.lt_iff_toInt_lt] at h1 h2
      exact ⟨fun _ => ⟨Int32.le_iff_toInt_le.mpr (by omega), Int32.le_iff_toInt_le.mpr (by omega)⟩, fun _ => rfl⟩
theorem inb_01 (a b c : Int32) : inb a b c = 0 ∨ inb a b c = 1 := by
  unfold inb
  split
  · exact Or.inl rfl
  · split
    · exact Or.inl rfl
    · exact Or.inr rfl
/-- a number in 0 .. n-1, or not -/
theorem inb_nat {x : Int32} {n : Nat} (hn : n < 2 ^ 31) : (∃ j, j < n ∧ x = nI j ∧ inb x 0 (nI n - 1) = 1) ∨ ((∀ j, j < n → x ≠ nI j) ∧ inb x 0 (nI n - 1) = 0) := by
  have e : (nI n - 1).toInt = (n : Int) - 1 := by
    rw [fb_subI]
    · rw [nI_toInt hn]; rfl
    · rw [nI_toInt hn]; show _ ≤ (n : Int) - 1; omega
    · rw [nI_toInt hn]; show (n : Int) - 1 < _; omega
  rcases inb_01 x 0 (nI n - 1) with h | h
  · right
    refine ⟨fun j hj hx => ?_, h⟩
    have h1 : ¬ inb x 0 (nI n - 1) = 1 := by rw [h]; decide
    apply h1
    rw [inb_1, Int32.le_iff_toInt_le, Int32.le_iff_toInt_le, e, hx, nI_toInt (by omega)]
    constructor
    · show (0 : Int) ≤ _; omega
    · omega
  · left
    have h1 := inb_1.mp h
    rw [Int32.le_iff_toInt_le, Int32.le_iff_toInt_le, e] at h1
    have h2 : (0 : Int) ≤ x.toInt := h1.1
    refine ⟨x.toInt.toNat, by omega, ?_, h⟩
    apply Int32.toInt_inj.mp
    rw [nI_toInt (by omega)]
    omega
abbrev gt : Type := Nat × Nat × Nat × Nat × Nat
def gpk (g : gt) : Nat := g.1 + 8 * g.2.1 + 64 * g.2.2.1 + 512 * g.2.2.2.1 + 4096 * g.2.2.2.2
/-- a gate over w wires -/
def gok (w : Nat) (g : gt) : Prop := g.1 < 5 ∧ g.2.1 < w ∧ g.2.2.1 < w ∧ g.2.2.2.1 < w ∧ g.2.2.2.2 < 2 ∧ (1 ≤ g.1 → g.2.1 ≠ g.2.2.1) ∧ (3 ≤ g.1 → g.2.1 ≠ g.2.2.2.1 ∧ g.2.2.1 ≠ g.2.2.2.1) ∧ (g.1 < 1 → g.2.2.1 = 0) ∧ (g.1 < 3 → g.2.2.2.1 = 0)
def gchg (s a b : Nat) : Nat := if s / 2 ^ a % 2 = s / 2 ^ b % 2 then s else s ^^^ (2 ^ a ||| 2 ^ b)
def gact (g : gt) (s : Nat) : Nat :=
  if g.2.2.2.2 = 1 then s else
  if g.1 = 0 then s ^^^ 2 ^ g.2.1 else
  if g.1 = 1 then (if s / 2 ^ g.2.2.1 % 2 = 0 then s else s ^^^ 2 ^ g.2.1) else
  if g.1 = 2 then gchg s g.2.1 g.2.2.1 else
  if g.1 = 3 then (if s / 2 ^ g.2.2.2.1 % 2 = 0 then s else if s / 2 ^ g.2.2.1 % 2 = 0 then s else s ^^^ 2 ^ g.2.1) else
  (if s / 2 ^ g.2.2.2.1 % 2 = 0 then s else gchg s g.2.1 g.2.2.1)
theorem gx_d : ∀ k, k < 5 → ∀ a, a < 6 → ∀ b, b < 6 → ∀ c, c < 6 → ∀ d, d < 2 → (nI (k + 8 * a + 64 * b + 512 * c + 4096 * d) &&& 4096) = nI (4096 * d) := by decide +kernel
theorem gx_k : ∀ k, k < 5 → ∀ a, a < 6 → ∀ b, b < 6 → ∀ c, c < 6 → ∀ d, d < 2 → (nI (k + 8 * a + 64 * b + 512 * c + 4096 * d) &&& 7) = nI k := by decide +kernel
theorem gx_a : ∀ k, k < 5 → ∀ a, a < 6 → ∀ b, b < 6 → ∀ c, c < 6 → ∀ d, d < 2 → ((nI (k + 8 * a + 64 * b + 512 * c + 4096 * d) >>> ((3 + 3 * (0 : Int32)) &&& 31)) &&& 7) = nI a := by decide +kernel
theorem gx_b : ∀ k, k < 5 → ∀ a, a < 6 → ∀ b, b < 6 → ∀ c, c < 6 → ∀ d, d < 2 → ((nI (k + 8 * a + 64 * b + 512 * c + 4096 * d) >>> ((3 + 3 * (1 : Int32)) &&& 31)) &&& 7) = nI b := by decide +kernel
theorem gx_c : ∀ k, k < 5 → ∀ a, a < 6 → ∀ b, b < 6 → ∀ c, c < 6 → ∀ d, d < 2 → ((nI (k + 8 * a + 64 * b + 512 * c + 4096 * d) >>> ((3 + 3 * (2 : Int32)) &&& 31)) &&& 7) = nI c := by decide +kernel
theorem gx_fl : ∀ s, s < 64 → ∀ a, a < 6 → (nI s ^^^ ((1 : Int32) <<< (nI a &&& 31))) = nI (s ^^^ 2 ^ a) := by decide +kernel
theorem gx_fl2 : ∀ s, s < 64 → ∀ a, a < 6 → s ^^^ 2 ^ a < 64 := by decide +kernel
theorem gx_bit : ∀ s, s < 64 → ∀ a, a < 6 → ((nI s &&& ((1 : Int32) <<< (nI a &&& 31))) = 0 ↔ s / 2 ^ a % 2 = 0) := by decide +kernel
theorem gx_has : ∀ s, s < 64 → ∀ a, a < 6 → ((nI s >>> (nI a &&& 31)) &&& 1) = nI (s / 2 ^ a % 2) := by decide +kernel
def tif (x a b : Int32) : Int32 := if (x &&& b) = 0 then x else x ^^^ a
theorem gx_chg : ∀ a, a < 6 → ∀ b, b < 6 → a ≠ b → ∀ s, s < 64 → tif (tif (tif (nI s) ((1 : Int32) <<< (nI a &&& 31)) ((1 : Int32) <<< (nI b &&& 31))) ((1 : Int32) <<< (nI b &&& 31)) ((1 : Int32) <<< (nI a &&& 31))) ((1 : Int32) <<< (nI a &&& 31)) ((1 : Int32) <<< (nI b &&& 31)) = nI (gchg s a b) := by decide +kernel
theorem gx_chm : ∀ a, a < 6 → ∀ b, b < 6 → ∀ s, s < 64 → (nI s ^^^ (((1 : Int32) <<< (nI a &&& 31)) ||| ((1 : Int32) <<< (nI b &&& 31)))) = nI (s ^^^ (2 ^ a ||| 2 ^ b)) := by decide +kernel
theorem gx_ch2 : ∀ a, a < 6 → ∀ b, b < 6 → ∀ s, s < 64 → s ^^^ (2 ^ a ||| 2 ^ b) < 64 := by decide +kernel
theorem e_isDead {x : Int32} {h : aw_H} {Q : aw_R} : tr_X2_isDead [.int x] h Q = Q (some (.int (if (x &&& 4096) = 0 then 0 else 1))) h := by
  rw [propext tq_X2_isDead]
  unfold sm_X2_isDead_0
  split <;> rfl
theorem e_wireAt {x y : Int32} {h : aw_H} {Q : aw_R} : tr_X2_wireAt [.int x, .int y] h Q = Q (some (.int ((x >>> ((3 + 3 * y) &&& 31)) &&& 7))) h := propext tq_X2_wireAt
theorem e_kindOf {x : Int32} {h : aw_H} {Q : aw_R} : tr_X2_kindOf [.int x] h Q = Q (some (.int (x &&& 7))) h := propext tq_X2_kindOf
theorem e_turnIf {x y z : Int32} {h : aw_H} {Q : aw_R} : tr_X2_turnIf [.int x, .int y, .int z] h Q = Q (some (.int (tif x y z))) h := by
  rw [propext tq_X2_turnIf]
  unfold sm_X2_turnIf_0 tif
  split <;> rfl
theorem e_change {x y z : Int32} {h : aw_H} {Q : aw_R} : tr_X2_change [.int x, .int y, .int z] h Q = Q (some (.int (tif (tif (tif x y z) z y) y z))) h := by
  rw [propext tq_X2_change]
  unfold sm_X2_change_0
  simp only [e_turnIf, sr_I]
theorem e_killed {x : Int32} {h : aw_H} {Q : aw_R} : tr_X2_killed [.int x] h Q = Q (some (.int (x ||| 4096))) h := propext tq_X2_killed
theorem e_healed {x : Int32} {h : aw_H} {Q : aw_R} : tr_X2_healed [.int x] h Q = Q (some (.int (x &&& (-4097)))) h := propext tq_X2_healed
theorem e_asKind {x y : Int32} {h : aw_H} {Q : aw_R} : tr_X2_asKind [.int x, .int y] h Q = Q (some (.int ((x &&& (-8)) ||| y))) h := propext tq_X2_asKind
theorem e_pack {x y z w : Int32} {h : aw_H} {Q : aw_R} : tr_X2_pack [.int x, .int y, .int z, .int w] h Q = Q (some (.int (((x ||| (y <<< (3 &&& 31))) ||| (z <<< (6 &&& 31))) ||| (w <<< (9 &&& 31))))) h := propext tq_X2_pack
theorem gact_lt {w : Nat} {g : gt} (hg : gok w g) (hw : w ≤ 6) {s : Nat} (hs : s < 64) : gact g s < 64 := by
  obtain ⟨k, a, b, c, d⟩ := g
  obtain ⟨hk, ha, hb, hc, hd, -⟩ := hg
  dsimp only at *
  have h1 := gx_fl2 s hs a (by omega)
  have h2 := gx_ch2 a (by omega) b (by omega) s hs
  unfold gact gchg
  dsimp only
  repeat' split
  all_goals first | exact hs | exact h1 | exact h2
theorem q10 : ¬ nI 1 = 0 := by decide
theorem q20 : ¬ nI 2 = 0 := by decide
theorem q21 : ¬ nI 2 = 1 := by decide
theorem q30 : ¬ nI 3 = 0 := by decide
theorem q31 : ¬ nI 3 = 1 := by decide
theorem q32 : ¬ nI 3 = 2 := by decide
theorem q40 : ¬ nI 4 = 0 := by decide
theorem q41 : ¬ nI 4 = 1 := by decide
theorem q42 : ¬ nI 4 = 2 := by decide
theorem q43 : ¬ nI 4 = 3 := by decide
theorem p00 : nI 0 = 0 := by decide
theorem p11 : nI 1 = 1 := by decide
theorem p22 : nI 2 = 2 := by decide
theorem p33 : nI 3 = 3 := by decide
theorem p44 : nI 4 = 4 := by decide
theorem n10 : ¬ (1 : Nat) = 0 := by decide
theorem n20 : ¬ (2 : Nat) = 0 := by decide
theorem n21 : ¬ (2 : Nat) = 1 := by decide
theorem n30 : ¬ (3 : Nat) = 0 := by decide
theorem n31 : ¬ (3 : Nat) = 1 := by decide
theorem n32 : ¬ (3 : Nat) = 2 := by decide
theorem n40 : ¬ (4 : Nat) = 0 := by decide
theorem n41 : ¬ (4 : Nat) = 1 := by decide
theorem n42 : ¬ (4 : Nat) = 2 := by decide
theorem n43 : ¬ (4 : Nat) = 3 := by decide
theorem e_act {w : Nat} {g : gt} (hg : gok w g) (hw : w ≤ 6) {s : Nat} (hs : s < 64) {h : aw_H} {Q : aw_R} : tr_X2_act [.int (nI (gpk g)), .int (nI s)] h Q = Q (some (.int (nI (gact g s)))) h := by
  obtain ⟨k, a, b, c, d⟩ := g
  obtain ⟨hk, ha, hb, hc, hd, hu, hv, -⟩ := hg
  dsimp only at *
  have f1 := gx_d k hk a (by omega) b (by omega) c (by omega) d hd
  have f2 := gx_k k hk a (by omega) b (by omega) c (by omega) d hd
  have f3 := gx_a k hk a (by omega) b (by omega) c (by omega) d hd
  have f4 := gx_b k hk a (by omega) b (by omega) c (by omega) d hd
  have f5 := gx_c k hk a (by omega) b (by omega) c (by omega) d hd
  rw [propext tq_X2_act]
  unfold sm_X2_act_0
  simp only [e_isDead, e_wireAt, e_kindOf, e_turnIf, e_change, sr_I, gpk]
  rw [f1, f2, f3, f4, f5]
  have b1 := gx_bit s hs b (by omega)
  have b2 := gx_bit s hs c (by omega)
  have g1 := gx_fl s hs a (by omega)
  unfold gact
  dsimp only
  rcases (show d = 0 ∨ d = 1 by omega) with rfl | rfl
  · rw [if_pos (by decide : nI (4096 * 0) = 0), if_pos rfl, if_neg (by decide : ¬ (0 : Nat) = 1)]
    rcases (show k = 0 ∨ k = 1 ∨ k = 2 ∨ k = 3 ∨ k = 4 by omega) with rfl | rfl | rfl | rfl | rfl
    · rw [if_pos p00, if_pos rfl, g1]
    · rw [if_neg q10, if_pos p11, if_neg n10, if_pos rfl]
      unfold tif
      by_cases hb1 : s / 2 ^ b % 2 = 0
      · rw [if_pos (b1.mpr hb1), if_pos hb1]
      · rw [if_neg (fun q => hb1 (b1.mp q)), if_neg hb1, g1]
    · rw [if_neg q20, if_neg q21, if_pos p22, if_neg n20, if_neg n21, if_pos rfl, gx_chg a (by omega) b (by omega) (hu (by omega)) s hs]
    · rw [if_neg q30, if_neg q31, if_neg q32, if_pos p33, if_neg n30, if_neg n31, if_neg n32, if_pos rfl]
      by_cases hc1 : s / 2 ^ c % 2 = 0
      · rw [if_pos (b2.mpr hc1), if_pos hc1]
      · rw [if_neg (fun q => hc1 (b2.mp q)), if_neg hc1]
        unfold tif
        by_cases hb1 : s / 2 ^ b % 2 = 0
        · rw [if_pos (b1.mpr hb1), if_pos hb1]
        · rw [if_neg (fun q => hb1 (b1.mp q)), if_neg hb1, g1]
    · rw [if_neg q40, if_neg q41, if_neg q42, if_neg q43, if_pos p44, if_neg n40, if_neg n41, if_neg n42, if_neg n43]
      by_cases hc1 : s / 2 ^ c % 2 = 0
      · rw [if_pos (b2.mpr hc1), if_pos hc1]
      · rw [if_neg (fun q => hc1 (b2.mp q)), if_neg hc1, gx_chg a (by omega) b (by omega) (hu (by omega)) s hs]
  · rw [if_neg (by decide : ¬ nI (4096 * 1) = 0), if_neg (by decide : ¬ (1 : Int32) = 0), if_pos rfl]
def has1 (x y : Int32) : Int32 := if ((x >>> (y &&& 31)) &&& 1) = 1 then 1 else 0
theorem e_has {x y : Int32} {h : aw_H} {Q : aw_R} : tr_X7_has [.int x, .int y] h Q = Q (some (.int (has1 x y))) h := by
  rw [propext tq_X7_has]
  unfold sm_X7_has_0 has1
  by_cases hc : ((x >>> (y &&& 31)) &&& 1) = 1
  · rw [if_neg (fun q => q hc), if_pos hc]
  · rw [if_pos hc, if_neg hc]
theorem has_nat {s a : Nat} (hs : s < 64) (ha : a < 6) : has1 (nI s) (nI a) = nI (s / 2 ^ a % 2) := by
  unfold has1
  rw [gx_has s hs a ha]
  rcases (show s / 2 ^ a % 2 = 0 ∨ s / 2 ^ a % 2 = 1 by omega) with q | q <;> rw [q] <;> decide
theorem e_changed {s a b : Nat} (hs : s < 64) (ha : a < 6) (hb : b < 6) {h : aw_H} {Q : aw_R} : tr_X7_changed [.int (nI s), .int (nI a), .int (nI b)] h Q = Q (some (.int (nI (gchg s a b)))) h := by
  rw [propext tq_X7_changed]
  unfold sm_X7_changed_0 sm_X7_changed_18
  simp only [e_has, sr_I]
  rw [has_nat hs ha, has_nat hs hb]
  unfold gchg
  have e1 : (nI (s / 2 ^ a % 2) = nI (s / 2 ^ b % 2)) ↔ s / 2 ^ a % 2 = s / 2 ^ b % 2 := nI_eq (by omega) (by omega)
  by_cases hc : s / 2 ^ a % 2 = s / 2 ^ b % 2
  · rw [if_neg (fun q => q (e1.mpr hc)), if_neg (by decide), if_pos hc]
  · rw [if_pos (fun q => hc (e1.mp q)), if_pos trivial, if_neg hc, gx_chm a ha b hb s hs]
theorem e_doneBy {w : Nat} {k a b c : Nat} (hg : gok w (k, a, b, c, 0)) (hw : w ≤ 6) {s : Nat} (hs : s < 64) {h : aw_H} {Q : aw_R} : tr_X7_doneBy [.int (nI k), .int (nI a), .int (nI b), .int (nI c), .int (nI s)] h Q = Q (some (.int (nI (gact (k, a, b, c, 0) s)))) h := by
  obtain ⟨hk, ha, hb, hc, hd, hu, hv, -⟩ := hg
  dsimp only at *
  rw [propext tq_X7_doneBy]
  unfold sm_X7_doneBy_0
  simp only [e_has, sr_I]
  rw [has_nat hs (show b < 6 by omega), has_nat hs (show c < 6 by omega)]
  rw [e_changed hs (show a < 6 by omega) (show b < 6 by omega)]
  simp only [sr_I]
  have g1 := gx_fl s hs a (by omega)
  have eb : nI (s / 2 ^ b % 2) = 0 ↔ s / 2 ^ b % 2 = 0 := nI_eq (a := s / 2 ^ b % 2) (b := 0) (by omega) (by omega)
  have ec : nI (s / 2 ^ c % 2) = 0 ↔ s / 2 ^ c % 2 = 0 := nI_eq (a := s / 2 ^ c % 2) (b := 0) (by omega) (by omega)
  rw [g1]
  unfold gact
  dsimp only
  rw [if_neg (by decide : ¬ (0 : Nat) = 1)]
  rcases (show k = 0 ∨ k = 1 ∨ k = 2 ∨ k = 3 ∨ k = 4 by omega) with rfl | rfl | rfl | rfl | rfl
  · rw [if_pos p00, if_pos rfl]
  · rw [if_neg q10, if_pos p11, if_neg n10, if_pos rfl]
    by_cases hb1 : s / 2 ^ b % 2 = 0
    · rw [if_pos (eb.mpr hb1), if_pos hb1]
    · rw [if_neg (fun q => hb1 (eb.mp q)), if_neg hb1]
  · rw [if_neg q20, if_neg q21, if_pos p22, if_neg n20, if_neg n21, if_pos rfl]
  · rw [if_neg q30, if_neg q31, if_neg q32, if_pos p33, if_neg n30, if_neg n31, if_neg n32, if_pos rfl]
    by_cases hb1 : s / 2 ^ b % 2 = 0
    · rw [if_pos (eb.mpr hb1), if_pos hb1]
      split <;> rfl
    · rw [if_neg (fun q => hb1 (eb.mp q)), if_neg hb1]
      by_cases hc1 : s / 2 ^ c % 2 = 0
      · rw [if_pos (ec.mpr hc1), if_pos hc1]
      · rw [if_neg (fun q => hc1 (ec.mp q)), if_neg hc1]
  · rw [if_neg q40, if_neg q41, if_neg q42, if_neg q43, if_neg n40, if_neg n41, if_neg n42, if_neg n43]
    by_cases hc1 : s / 2 ^ c % 2 = 0
    · rw [if_pos (ec.mpr hc1), if_pos hc1]
    · rw [if_neg (fun q => hc1 (ec.mp q)), if_neg hc1]
