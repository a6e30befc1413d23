/-! CIRCUIT: the text in numbers; the class reads it -/
def skp (c : Nat → Nat) : Nat → Nat → Nat
  | 0, p => p
  | m + 1, p => if c p = 32 then skp c m (p + 1) else p
def skip (T : Nat) (c : Nat → Nat) (p : Nat) : Nat := skp c (T - p) p
theorem skip_end {T : Nat} {c : Nat → Nat} {p : Nat} (h : T ≤ p) : skip T c p = p := by
  unfold skip
  rw [show T - p = 0 by omega]
  rfl
theorem skip_b {T : Nat} {c : Nat → Nat} {p : Nat} (h : p < T) (hb : c p = 32) : skip T c p = skip T c (p + 1) := by
  unfold skip
  rw [show T - p = (T - (p + 1)) + 1 by omega]
  exact if_pos hb
theorem skip_n {T : Nat} {c : Nat → Nat} {p : Nat} (h : p < T) (hb : ¬ c p = 32) : skip T c p = p := by
  unfold skip
  rw [show T - p = (T - (p + 1)) + 1 by omega]
  exact if_neg hb
theorem skp_le (c : Nat → Nat) : ∀ (m p : Nat), p ≤ skp c m p ∧ skp c m p ≤ p + m
  | 0, p => ⟨Nat.le_refl p, Nat.le_refl p⟩
  | m + 1, p => by
    have := skp_le c m (p + 1)
    show p ≤ (if c p = 32 then skp c m (p + 1) else p) ∧ (if c p = 32 then skp c m (p + 1) else p) ≤ p + (m + 1)
    split <;> omega
theorem skp_st (c : Nat → Nat) : ∀ (m p : Nat), skp c m p = p + m ∨ ¬ c (skp c m p) = 32
  | 0, p => Or.inl rfl
  | m + 1, p => by
    have ih := skp_st c m (p + 1)
    show (if c p = 32 then skp c m (p + 1) else p) = p + (m + 1) ∨ ¬ c (if c p = 32 then skp c m (p + 1) else p) = 32
    split
    · rcases ih with q | q
      · exact Or.inl (by omega)
      · exact Or.inr q
    · rename_i q
      exact Or.inr q
theorem skip_le {T : Nat} {c : Nat → Nat} {p : Nat} (h : p ≤ T) : p ≤ skip T c p ∧ skip T c p ≤ T := by
  have := skp_le c (T - p) p
  unfold skip
  omega
theorem skip_le2 {T : Nat} {c : Nat → Nat} {p N : Nat} (h : p ≤ N) (hT : T ≤ N) : skip T c p ≤ N := by
  have := skp_le c (T - p) p
  unfold skip
  omega
theorem skip_2 (T : Nat) (c : Nat → Nat) (p : Nat) : skip T c (skip T c p) = skip T c p := by
  by_cases h : T ≤ skip T c p
  · exact skip_end h
  · apply skip_n (by omega)
    rcases skp_st c (T - p) p with q | q
    · have : skip T c p = p + (T - p) := q
      omega
    · exact q
def chr (T : Nat) (c : Nat → Nat) (p : Nat) : Nat := if p < T then c p else 0
abbrev isd (T : Nat) (c : Nat → Nat) (p : Nat) : Prop := p < T ∧ 48 ≤ c p ∧ c p ≤ 57
def rwr (T : Nat) (c : Nat → Nat) (W : Nat) : Nat → Nat → (Nat → Nat) → Nat → Sum Nat ((Nat → Nat) × Nat)
  | 0, _, ws, p => .inr (ws, p)
  | m + 1, k, ws, p => if isd T c (skip T c p) ∧ c (skip T c p) - 48 < W ∧ (∀ j, j < k → ws j ≠ c (skip T c p) - 48) then rwr T c W m (k + 1) (fun j => if j = k then c (skip T c p) - 48 else ws j) (skip T c p + 1) else .inl (skip T c p)
def kno (x : Nat) : Option Nat := if x = 98 then some 3 else if x = 99 then some 2 else if x = 105 then some 1 else if x = 112 then some 4 else if x = 116 then some 0 else none
theorem kno_lt {x k : Nat} (h : kno x = some k) : k < 5 := by
  unfold kno at h
  repeat' split at h
  all_goals first | (cases h; omega) | cases h
def rgt (T : Nat) (c : Nat → Nat) (W p : Nat) : Sum Nat (gt × Nat) := match kno (chr T c (skip T c p)) with
  | none => .inl (skip T c p)
  | some k => match rwr T c W (gwo k) 0 (fun _ => 0) (skip T c p + 1) with
    | .inl e => .inl e
    | .inr (ws, p') => if chr T c (skip T c p') = 33 then .inr ((k, ws 0, ws 1, ws 2, 1), skip T c p' + 1) else .inr ((k, ws 0, ws 1, ws 2, 0), skip T c p')
def rgs (T : Nat) (c : Nat → Nat) (W : Nat) : Nat → Nat → (Nat → gt) → Nat → Sum Nat (Nat × (Nat → gt))
  | 0, _, _, p => .inl p
  | m + 1, n, γ, p => match rgt T c W p with
    | .inl e => .inl e
    | .inr (g, p') => if T ≤ skip T c p' then .inr (n + 1, gput γ n g) else if n + 1 = 16 ∨ ¬ chr T c (skip T c p') = 44 then .inl (skip T c p') else rgs T c W m (n + 1) (gput γ n g) (skip T c p' + 1)
def g00 : Nat → gt := fun _ => (0, 0, 0, 0, 0)
def prg (T : Nat) (c : Nat → Nat) (W p : Nat) : Sum Nat (Nat × (Nat → gt)) := if T ≤ skip T c p then .inr (0, g00) else rgs T c W 16 0 g00 (skip T c p)
def pbt (T : Nat) (c : Nat → Nat) (W p : Nat) : Sum Nat (Nat × Nat) :=
  if chr T c (skip T c p) = 61 then
    (if isd T c (skip T c (skip T c p + 1)) then
      (if isd T c (skip T c (skip T c p + 1) + 1) then
        (if 10 * (c (skip T c (skip T c p + 1)) - 48) + (c (skip T c (skip T c p + 1) + 1) - 48) < 2 ^ W then .inr (10 * (c (skip T c (skip T c p + 1)) - 48) + (c (skip T c (skip T c p + 1) + 1) - 48), skip T c (skip T c p + 1) + 1 + 1) else .inl (skip T c (skip T c p + 1)))
      else (if c (skip T c (skip T c p + 1)) - 48 < 2 ^ W then .inr (c (skip T c (skip T c p + 1)) - 48, skip T c (skip T c p + 1) + 1) else .inl (skip T c (skip T c p + 1))))
    else .inl (skip T c (skip T c p + 1)))
  else .inr (0, skip T c p)
def prs (T : Nat) (c : Nat → Nat) : Sum Nat (Nat × Nat × Nat × (Nat → gt)) :=
  if isd T c (skip T c 0) ∧ 2 ≤ c (skip T c 0) - 48 ∧ c (skip T c 0) - 48 ≤ 6 then
    (match pbt T c (c (skip T c 0) - 48) (skip T c 0 + 1) with
    | .inl e => .inl e
    | .inr (b, p) => if chr T c (skip T c p) = 58 then (match prg T c (c (skip T c 0) - 48) (skip T c p + 1) with
      | .inl e => .inl e
      | .inr (n, γ) => .inr (c (skip T c 0) - 48, b, n, γ)) else .inl (skip T c p))
  else .inl (skip T c 0)
def Ltr (T : Nat) (c : Nat → Nat) : Prop := T ≤ 110 ∧ ∀ j, j < T → 32 ≤ c j ∧ c j ≤ 126
def TC (S : st_S) (T : Nat) (c : Nat → Nat) (p : Nat) : Prop := S.1 41 1 = nI T ∧ S.1 41 2 = nI p ∧ ∀ j, j < T → S.2.1 42 j = nI (c j)
theorem TC.at {S : st_S} {T : Nat} {c : Nat → Nat} {p : Nat} (h : TC S T c p) (p' : Nat) : TC (sI S 41 2 (nI p')) T c p' := ⟨by rw [sI_ne _ _ (by omega)]; exact h.1, sI_at _ _ _ _, h.2.2⟩
theorem TC.kept {S S' : st_S} {T : Nat} {c : Nat → Nat} {p : Nat} (h : TC S T c p) (h1 : Sa S S' 41) (h2 : Sa S S' 42) : TC S' T c p := ⟨by rw [h1.1]; exact h.1, by rw [h1.1]; exact h.2.1, fun j hj => by rw [h2.2.1]; exact h.2.2 j hj⟩
theorem tc_r {S : st_S} {K : Nat → Prop} : sg_R (hp S) 41 4 0 K = K 42 := hq_R k41 rfl
theorem tc_v {S : st_S} {A : Prop} : sv_O (hp S) 41 4 A = A := hv_O k41 (by decide)
theorem tc_l {S : st_S} {T : Nat} {c : Nat → Nat} {p : Nat} (h : TC S T c p) (hl : Ltr T c) {j : Nat} (hj : j < T) {K : Int32 → Prop} : sa_C (hp S) 42 (nI j) K = K (nI (c j)) := by
  have := hl.1
  rw [ha_C (p := 42) rfl, cl (by omega), h.2.2 j hj]
  exact propext ⟨fun q => q.2, fun q => ⟨vi (show j < ln 42 from by show j < 110; omega) (by decide), q⟩⟩
theorem c_skip {S : st_S} {T : Nat} {c : Nat → Nat} {p0 : Nat} (h : TC S T c p0) (hl : Ltr T c) (hpT : p0 ≤ T) {Q : aw_R} (hq : ∀ S2, Sx [41] S S2 → TC S2 T c (skip T c p0) → Q none (hp S2)) : tr_X5_skipBlanks [.ref 41] (hp S) Q := by
  rw [tq_X5_skipBlanks]
  intro K0 r0
  have hT := hl.1
  have main : ∀ m p S1, p + m = T → Sx [41] S S1 → TC S1 T c p → skip T c p = skip T c p0 → K0 41 (hp S1) := by
    intro m
    induction m with
    | zero =>
      intro p S1 e s1 t1 es
      apply r0
      unfold sm_X5_skipBlanks_0
      rw [hq_I (k := 2) k41 rfl, t1.2.1, hq_I (k := 1) k41 rfl, t1.1, if_pos (nI_le (by omega) (by omega))]
      exact hq S1 s1 (by rw [← es, skip_end (by omega)]; exact t1)
    | succ m ih =>
      intro p S1 e s1 t1 es
      apply r0
      unfold sm_X5_skipBlanks_0
      have hp : p < T := by omega
      have hcp := hl.2 p hp
      rw [hq_I (k := 2) k41 rfl, t1.2.1, hq_I (k := 1) k41 rfl, t1.1, if_neg (nI_ge hp (by omega)), tc_r, hq_I (k := 2) k41 rfl, t1.2.1, tc_l t1 hl hp]
      by_cases hb : c p = 32
      · rw [if_neg (fun q => q (by rw [hb]; rfl)), hq_I (k := 2) k41 rfl, t1.2.1, nI_1, hq_P (k := 2) k41 rfl]
        exact ih (p + 1) _ (by omega) (s1.tr (Sx.I (by simp))) (t1.at _) (by rw [← es, skip_b hp hb])
      · rw [if_pos (show ¬ nI (c p) = 32 from fun q => hb ((nI_eq (b := 32) (by omega) (by omega)).mp q))]
        exact hq S1 s1 (by rw [← es, skip_n hp hb]; exact t1)
  exact main (T - p0) p0 S (by omega) (Sx.rf _ S) h rfl
theorem c_end {S : st_S} {T : Nat} {c : Nat → Nat} {p : Nat} (h : TC S T c p) (hl : Ltr T c) (hpT : p ≤ T) {Q : aw_R} (hq : ∀ S2, Sx [41] S S2 → TC S2 T c (skip T c p) → Q (some (.int (if T ≤ skip T c p then 1 else 0))) (hp S2)) : tr_X5_isAtEnd [.ref 41] (hp S) Q := by
  rw [tq_X5_isAtEnd]
  unfold sm_X5_isAtEnd_0
  have hT := hl.1
  have hs := skip_le (c := c) hpT
  rw [tc_v]
  refine c_skip h hl hpT (fun S2 s2 t2 => ?_)
  simp only [sr_V]
  have := hq S2 s2 t2
  rw [hq_I (k := 2) k41 rfl, t2.2.1, hq_I (k := 1) k41 rfl, t2.1]
  by_cases he : T ≤ skip T c p
  · rw [if_pos he] at this
    rw [if_neg (nI_nlt he (by omega))]
    exact this
  · rw [if_neg he] at this
    rw [if_pos (nI_lt (by omega) (by omega))]
    exact this
theorem c_takes {S : st_S} {T : Nat} {c : Nat → Nat} {p x : Nat} (h : TC S T c p) (hl : Ltr T c) (hpT : p ≤ T) (hx0 : 0 < x) (hx : x < 200) {Q : aw_R} (hq1 : chr T c (skip T c p) = x → skip T c p < T → ∀ S2, Sx [41] S S2 → TC S2 T c (skip T c p + 1) → Q (some (.int 1)) (hp S2)) (hq0 : ¬ chr T c (skip T c p) = x → ∀ S2, Sx [41] S S2 → TC S2 T c (skip T c p) → Q (some (.int 0)) (hp S2)) : tr_X5_takes [.ref 41, .int (nI x)] (hp S) Q := by
  rw [tq_X5_takes]
  unfold sm_X5_takes_0
  have hT := hl.1
  have hs := skip_le (c := c) hpT
  rw [tc_v]
  refine c_skip h hl hpT (fun S2 s2 t2 => ?_)
  simp only [sr_V]
  rw [hq_I (k := 2) k41 rfl, t2.2.1, hq_I (k := 1) k41 rfl, t2.1]
  by_cases he : T ≤ skip T c p
  · rw [if_pos (nI_le he (by omega))]
    exact hq0 (by unfold chr; rw [if_neg (by omega)]; omega) S2 s2 t2
  · have hlt : skip T c p < T := by omega
    have hcp := hl.2 _ hlt
    have ec : chr T c (skip T c p) = c (skip T c p) := if_pos hlt
    rw [if_neg (nI_ge hlt (by omega)), tc_r, hq_I (k := 2) k41 rfl, t2.2.1, tc_l t2 hl hlt]
    by_cases hc : c (skip T c p) = x
    · rw [if_pos (by rw [hc]), hq_I (k := 2) k41 rfl, t2.2.1, nI_1, hq_P (k := 2) k41 rfl]
      exact hq1 (by rw [ec]; exact hc) hlt _ (s2.tr (Sx.I (by simp))) (t2.at _)
    · rw [if_neg (fun q => hc ((nI_eq (by omega) (by omega)).mp q))]
      exact hq0 (by rw [ec]; exact hc) S2 s2 t2
theorem c_digit {S : st_S} {T : Nat} {c : Nat → Nat} {p : Nat} (h : TC S T c p) (hl : Ltr T c) (hpT : p ≤ T) {Q : aw_R} (hq1 : isd T c p → Q (some (.int (nI (c p - 48)))) (hp S)) (hq0 : ¬ isd T c p → Q (some (.int (-1))) (hp S)) : tr_X5_digitHere [.ref 41] (hp S) Q := by
  rw [tq_X5_digitHere]
  unfold sm_X5_digitHere_0
  have hT := hl.1
  rw [hq_I (k := 2) k41 rfl, h.2.1, hq_I (k := 1) k41 rfl, h.1]
  by_cases he : T ≤ p
  · rw [if_pos (nI_le he (by omega))]
    exact hq0 (fun q => by omega)
  · have hlt : p < T := by omega
    have hcp := hl.2 _ hlt
    rw [if_neg (nI_ge hlt (by omega)), tc_r, hq_I (k := 2) k41 rfl, h.2.1, tc_l h hl hlt]
    by_cases h1 : c p < 48
    · rw [if_pos (show nI (c p) < (48 : Int32) from nI_lt (b := 48) h1 (by omega))]
      exact hq0 (fun q => by omega)
    · rw [if_neg (show ¬ nI (c p) < (48 : Int32) from nI_nlt (b := 48) (by omega) (by omega)), tc_r, hq_I (k := 2) k41 rfl, h.2.1, tc_l h hl hlt]
      by_cases h2 : c p ≤ 57
      · rw [if_pos (show nI (c p) ≤ (57 : Int32) from nI_le (b := 57) h2 (by omega)), tc_r, hq_I (k := 2) k41 rfl, h.2.1, tc_l h hl hlt, show nI (c p) - (48 : Int32) = nI (c p - 48) from pk_sub (b := 48) (by omega)]
        exact hq1 ⟨hlt, by omega, h2⟩
      · rw [if_neg (show ¬ nI (c p) ≤ (57 : Int32) from nI_ge (a := 57) (by omega) (by omega))]
        exact hq0 (fun q => by omega)
theorem e_kindNamed {x : Nat} (hx : x < 200) {h : aw_H} {Q : aw_R} : tr_X2_kindNamed [.int (nI x)] h Q = Q (some (.int (match kno x with | some k => nI k | none => -1))) h := by
  rw [propext tq_X2_kindNamed]
  unfold sm_X2_kindNamed_0 kno
  have e : ∀ n, n < 200 → (nI x = nI n ↔ x = n) := fun n hn => nI_eq (by omega) (by omega)
  have e98 : nI x = (98 : Int32) ↔ x = 98 := e 98 (by omega)
  have e99 : nI x = (99 : Int32) ↔ x = 99 := e 99 (by omega)
  have e105 : nI x = (105 : Int32) ↔ x = 105 := e 105 (by omega)
  have e112 : nI x = (112 : Int32) ↔ x = 112 := e 112 (by omega)
  have e116 : nI x = (116 : Int32) ↔ x = 116 := e 116 (by omega)
  by_cases h1 : x = 98
  · rw [if_pos (e98.mpr h1), if_pos h1]
    rfl
  rw [if_neg (fun q => h1 (e98.mp q)), if_neg h1]
  by_cases h2 : x = 99
  · rw [if_pos (e99.mpr h2), if_pos h2]
    rfl
  rw [if_neg (fun q => h2 (e99.mp q)), if_neg h2]
  by_cases h3 : x = 105
  · rw [if_pos (e105.mpr h3), if_pos h3]
    rfl
  rw [if_neg (fun q => h3 (e105.mp q)), if_neg h3]
  by_cases h4 : x = 112
  · rw [if_pos (e112.mpr h4), if_pos h4]
    rfl
  rw [if_neg (fun q => h4 (e112.mp q)), if_neg h4]
  by_cases h5 : x = 116
  · rw [if_pos (e116.mpr h5), if_pos h5]
    rfl
  rw [if_neg (fun q => h5 (e116.mp q)), if_neg h5]
theorem pk0 : ∀ d, d < 6 → ((((0 : Int32) ||| (nI d <<< (3 &&& 31))) ||| ((0 : Int32) <<< (6 &&& 31))) ||| ((0 : Int32) <<< (9 &&& 31))) = nI (2 ^ 3 * d) := by decide +kernel
theorem pk1 : ∀ d, d < 6 → ((((0 : Int32) ||| ((0 : Int32) <<< (3 &&& 31))) ||| (nI d <<< (6 &&& 31))) ||| ((0 : Int32) <<< (9 &&& 31))) = nI (2 ^ 6 * d) := by decide +kernel
theorem pk2 : ∀ d, d < 6 → ((((0 : Int32) ||| ((0 : Int32) <<< (3 &&& 31))) ||| ((0 : Int32) <<< (6 &&& 31))) ||| (nI d <<< (9 &&& 31))) = nI (2 ^ 9 * d) := by decide +kernel
theorem or_s {m k d : Nat} (h : m < 2 ^ k) : nI m ||| nI (2 ^ k * d) = nI (m + 2 ^ k * d) := by
  rw [Int32.or_comm, fa_or_sum d h, Nat.add_comm]
/-- what is known of the wires read -/
def Wok (W k : Nat) (ws : Nat → Nat) : Prop := (∀ j, j < k → ws j < W) ∧ (∀ j, k ≤ j → ws j = 0) ∧ ∀ i j, i < j → j < k → ws i ≠ ws j
theorem Wok.step {W k d : Nat} {ws : Nat → Nat} (h : Wok W k ws) (hd : d < W) (hn : ∀ j, j < k → ws j ≠ d) : Wok W (k + 1) (fun j => if j = k then d else ws j) := by
  obtain ⟨h1, h2, h3⟩ := h
  refine ⟨fun j hj => ?_, fun j hj => ?_, fun i j hij hj => ?_⟩
  · show (if j = k then d else ws j) < W
    split
    · exact hd
    · exact h1 j (by omega)
  · show (if j = k then d else ws j) = 0
    rw [if_neg (by omega)]
    exact h2 j (by omega)
  · show (if i = k then d else ws i) ≠ (if j = k then d else ws j)
    rw [if_neg (by omega)]
    split
    · exact hn i (by omega)
    · exact h3 i j hij (by omega)
theorem Wok.ok {W k : Nat} {ws : Nat → Nat} (hW : 2 ≤ W) (hk : k < 5) (h : Wok W (gwo k) ws) {d : Nat} (hd : d < 2) : gok W (k, ws 0, ws 1, ws 2, d) := by
  obtain ⟨h1, h2, h3⟩ := h
  have lt : ∀ j, ws j < W := fun j => by
    by_cases hj : j < gwo k
    · exact h1 j hj
    · rw [h2 j (by omega)]; omega
  refine ⟨hk, lt 0, lt 1, lt 2, hd, fun q => ?_, fun q => ?_, fun q => ?_, fun q => ?_⟩
  · have q : 1 ≤ k := q
    have : 2 ≤ gwo k := by unfold gwo; rw [if_neg (by omega)]; split <;> omega
    exact h3 0 1 (by omega) (by omega)
  · have q : 3 ≤ k := q
    have : gwo k = 3 := by unfold gwo; rw [if_neg (by omega), if_neg (by omega)]
    exact ⟨h3 0 2 (by omega) (by omega), h3 1 2 (by omega) (by omega)⟩
  · have q : k < 1 := q
    have : gwo k = 1 := by unfold gwo; rw [if_pos (by omega)]
    exact h2 1 (by omega)
  · have q : k < 3 := q
    have : gwo k ≤ 2 := (by decide +kernel : ∀ k, k < 3 → gwo k ≤ 2) k q
    exact h2 2 (by omega)
theorem rwr_ok {T : Nat} {c : Nat → Nat} {W : Nat} : ∀ {m k : Nat} {ws : Nat → Nat} {p : Nat} {ws' : Nat → Nat} {p' : Nat}, Wok W k ws → rwr T c W m k ws p = .inr (ws', p') → Wok W (k + m) ws'
  | 0, k, ws, p, ws', p', h, e => by
    have e : (Sum.inr (ws, p) : Sum Nat ((Nat → Nat) × Nat)) = .inr (ws', p') := e
    simp only [Sum.inr.injEq, Prod.mk.injEq] at e
    rw [← e.1]
    exact h
  | m + 1, k, ws, p, ws', p', h, e => by
    unfold rwr at e
    split at e
    · rename_i q
      have := rwr_ok (m := m) (h.step q.2.1 q.2.2) e
      rw [show k + (m + 1) = k + 1 + m by omega]
      exact this
    · cases e
theorem rgt_ok {T : Nat} {c : Nat → Nat} {W p : Nat} {g : gt} {p' : Nat} (hW : 2 ≤ W) (e : rgt T c W p = .inr (g, p')) : gok W g := by
  unfold rgt at e
  split at e
  · cases e
  · rename_i k hk
    split at e
    · cases e
    · rename_i ws q hr
      have w := rwr_ok (k := 0) ⟨fun j hj => absurd hj (Nat.not_lt_zero j), fun _ _ => rfl, fun i j _ hj => absurd hj (Nat.not_lt_zero j)⟩ hr
      rw [Nat.zero_add] at w
      split at e
      · simp only [Sum.inr.injEq, Prod.mk.injEq] at e
        rw [← e.1]
        exact w.ok hW (kno_lt hk) (by omega)
      · simp only [Sum.inr.injEq, Prod.mk.injEq] at e
        rw [← e.1]
        exact w.ok hW (kno_lt hk) (by omega)
theorem rgs_ok {T : Nat} {c : Nat → Nat} {W : Nat} (hW : 2 ≤ W) : ∀ {m n : Nat} {γ : Nat → gt} {p n' : Nat} {γ' : Nat → gt}, n + m = 16 → (∀ g, g < n → gok W (γ g)) → rgs T c W m n γ p = .inr (n', γ') → n' ≤ 16 ∧ ∀ g, g < n' → gok W (γ' g)
  | 0, n, γ, p, n', γ', _, _, e => by cases e
  | m + 1, n, γ, p, n', γ', hm, hg, e => by
    unfold rgs at e
    split at e
    · cases e
    · rename_i g q hr
      have go : ∀ g', g' < n + 1 → gok W (gput γ n g g') := fun g' h' => by
        unfold gput
        split
        · exact rgt_ok hW hr
        · exact hg g' (by omega)
      split at e
      · simp only [Sum.inr.injEq, Prod.mk.injEq] at e
        rw [← e.1, ← e.2]
        exact ⟨by omega, go⟩
      · split at e
        · cases e
        · exact rgs_ok hW (by omega) go e
