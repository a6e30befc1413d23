/-! SHEETS: sheet, drop, item -/
abbrev shs : Type := Option (Nat × Nat × (Nat → Int64))
def shp (σ : sg) (i : Nat) (s : shs) : sg := (σ.1, σ.2.1, σ.2.2.1, σ.2.2.2.1, fun k => if k = i then s else σ.2.2.2.2 k)
theorem CI.sh {S S' : st_S} {σ : sg} {i : Nat} {s : shs} (h : CI S σ) (hs : ∀ q, q < 58 → q ≠ 50 + 2 * i → q ≠ 51 + 2 * i → Sa S S' q) (hi : i < 4) (ho : Ho S' i s) : CI S' (shp σ i s) := by
  obtain ⟨h1, h2, h3, h4, h5⟩ := h
  refine ⟨⟨h1.1, h1.2.kept (hs _ (by omega) (by omega) (by omega)) (hs _ (by omega) (by omega) (by omega))⟩, h2.kept (fun q _ h => hs q (by omega) (by omega) (by omega)), ?_, ?_, ?_⟩
  · have f0 := hs 0 (by omega) (by omega) (by omega)
    show (match σ.2.2.1 with
      | none => S'.1 0 5 = 0
      | some (b, l) => S'.1 0 5 = 1 ∧ (Bok b ∧ Bo S' 21 b) ∧ Po S' 23 l)
    split
    · rename_i e
      rw [e] at h3
      rw [f0.1]
      exact h3
    · rename_i b l e
      rw [e] at h3
      rw [f0.1]
      exact ⟨h3.1, ⟨h3.2.1.1, h3.2.1.2.kept (hs _ (by omega) (by omega) (by omega)) (hs _ (by omega) (by omega) (by omega))⟩, h3.2.2.kept (fun q _ h => hs q (by omega) (by omega) (by omega))⟩
  · show To S' σ.2.2.2.1
    unfold To
    rw [(hs 41 (by omega) (by omega) (by omega)).1, (hs 42 (by omega) (by omega) (by omega)).2.1]
    exact h4
  · intro k hk
    show Ho S' k (if k = i then s else σ.2.2.2.2 k)
    by_cases hki : k = i
    · rw [if_pos hki, hki]
      exact ho
    · rw [if_neg hki]
      exact (h5 k hk).kept (hs _ (by omega) (by omega) (by omega)) (hs _ (by omega) (by omega) (by omega))
theorem MI.sh {S S' : st_S} {σ : sg} {i : Nat} {s : shs} (h : MI S σ) (h59 : S'.2.1 59 = S.2.1 59) (h58 : S'.1 58 = S.1 58) (h60 : S'.2.1 60 = S.2.1 60) (ho : ∀ k, k < 4 → Hm S' k (if k = i then s else σ.2.2.2.2 k)) : MI S' (shp σ i s) := by
  obtain ⟨g1, g2, g3, g4, g5⟩ := h
  have kB : ∀ {x B}, Br S x B → Br S' x B := fun {x B} q => by unfold Br; rw [h59]; exact q
  have kP : ∀ {x l}, Pr S x l → Pr S' x l := fun {x l} q => ⟨q.1, by rw [h59]; exact q.2.1, fun j C hj => kB (q.2.2 j C hj)⟩
  refine ⟨kB g1, kP g2, ?_, ?_, ho⟩
  · show (match σ.2.2.1 with
      | none => S'.1 58 1 = 0
      | some (b, l) => S'.1 58 1 = 1 ∧ Br S' 766 b ∧ Pr S' 766 l)
    split
    · rename_i e
      rw [e] at g3
      rw [h58]
      exact g3
    · rename_i b l e
      rw [e] at g3
      rw [h58]
      exact ⟨g3.1, kB g3.2.1, kP g3.2.2⟩
  · show Tm S' σ.2.2.2.1
    unfold Tm
    rw [h58, h60]
    exact g4
theorem e_CisSheet {x : Int32} {h : aw_H} {Q : aw_R} : tr_X6_isSheet [.int x] h Q = Q (some (.int (inb x 0 3))) h := by
  rw [propext tq_X6_isSheet]
  unfold sm_X6_isSheet_0
  exact cin (n := 4) (P := fun v => Q (some (.int v)) h) (by omega)
theorem e_CisLane {x y : Int32} {h : aw_H} {Q : aw_R} : tr_X6_isLaneOfSheet [.int x, .int y] h Q = Q (some (.int (if inb x 0 3 = 0 then 0 else inb y 0 3))) h := by
  rw [propext tq_X6_isLaneOfSheet]
  unfold sm_X6_isLaneOfSheet_0
  rw [e_CisSheet]
  simp only [sr_I]
  split
  · rfl
  · exact cin (n := 4) (P := fun v => Q (some (.int v)) h) (by omega)
theorem inb_p (x a b : Int32) {A : Prop} : ((inb x a b = 0 ∨ inb x a b = 1) ∧ A) = A := propext ⟨fun q => q.2, fun q => ⟨inb_01 x a b, q⟩⟩
theorem e_MisSheet {x : Int32} {h : aw_H} {Q : aw_R} : tr_X7_isSheet [.int x] h Q = Q (some (.int (inb x 0 3))) h := by
  rw [propext tq_X7_isSheet]
  unfold sm_X7_isSheet_0
  rw [e_in]
  simp only [sr_I]
  exact inb_p x 0 3
theorem e_MisLane {x : Int32} {h : aw_H} {Q : aw_R} : tr_X7_isLane [.int x] h Q = Q (some (.int (inb x 0 3))) h := by
  rw [propext tq_X7_isLane]
  unfold sm_X7_isLane_0
  rw [e_in]
  simp only [sr_I]
  exact inb_p x 0 3
theorem in_4 (x : Int32) : (∃ i, i < 4 ∧ x = nI i ∧ inb x 0 3 = 1) ∨ inb x 0 3 = 0 := by
  rcases inb_nat (x := x) (n := 4) (by omega) with ⟨k, hk, hx, e⟩ | ⟨hk, e⟩
  · exact Or.inl ⟨k, hk, hx, e⟩
  · exact Or.inr e
theorem s_k : ∀ i, i < 4 → kd (50 + 2 * i) = 3 ∧ kd (51 + 2 * i) = 11 ∧ ln (51 + 2 * i) = 24 := by decide +kernel
theorem s_r {S : st_S} {i : Nat} (h : i < 4) {K : Nat → Prop} : sa_R (hp S) 4 49 (nI i) K = K (50 + 2 * i) := by
  rw [ha_R4 (p := 49) rfl, cl (by omega)]
  exact propext ⟨fun q => q.2, fun q => ⟨vi h (by omega), q⟩⟩
theorem s_v {S : st_S} {i : Nat} (h : i < 4) {A : Prop} : sv_O (hp S) (50 + 2 * i) 3 A = A := hv_O (s_k i h).1 (by omega)
theorem s_3 {S : st_S} {i : Nat} (h : i < 4) {K : Nat → Prop} : sg_R (hp S) (50 + 2 * i) 3 3 K = K (51 + 2 * i) := by
  rw [hq_R (k := 3) (s_k i h).1 rfl]
  show K (50 + 2 * i + 1) = _
  rw [show 50 + 2 * i + 1 = 51 + 2 * i by omega]
def spn (sz : Nat) (i n : Int32) : Bool := !decide (i < 0) && !decide (n < 0) && !decide (nI sz - n < i)
theorem e_spans {S : st_S} {k sz : Nat} (hk : k < 4) (hz : S.1 (50 + 2 * k) 2 = nI sz) {i n : Int32} {Q : aw_R} : tr_X4_spans [.ref (50 + 2 * k), .int i, .int n] (hp S) Q = Q (some (.int (if spn sz i n then 1 else 0))) (hp S) := by
  rw [propext tq_X4_spans]
  unfold sm_X4_spans_0 spn
  by_cases h1 : i < 0
  · simp [h1]
  · by_cases h2 : n < 0
    · simp [h1, h2]
    · rw [if_neg h1, if_neg h2, hq_I (k := 2) (s_k k hk).1 rfl, hz]
      by_cases h3 : nI sz - n < i
      · simp [h3]
      · simp [h1, h2, h3]
theorem spn_nat {sz : Nat} (hz : sz ≤ 24) {i n : Int32} (h : spn sz i n = true) : ∃ a b, i = nI a ∧ n = nI b ∧ a + b ≤ sz := by
  unfold spn at h
  simp at h
  obtain ⟨⟨h1, h2⟩, h3⟩ := h
  obtain ⟨a, ha, rfl⟩ := nI_of (x := i) (by rw [Int32.lt_iff_toInt_lt]; have := Int32.le_iff_toInt_le.mp h1; omega)
  obtain ⟨b, hb, rfl⟩ := nI_of (x := n) (by rw [Int32.lt_iff_toInt_lt]; have := Int32.le_iff_toInt_le.mp h2; omega)
  refine ⟨a, b, rfl, rfl, ?_⟩
  have h3 := Int32.le_iff_toInt_le.mp h3
  rw [fb_subI (by rw [nI_toInt (by omega), nI_toInt hb]; omega) (by rw [nI_toInt (by omega), nI_toInt hb]; omega), nI_toInt ha, nI_toInt hb, nI_toInt (by omega)] at h3
  omega
theorem spn_no {sz : Nat} (hz : sz ≤ 24) {i n : Int32} (h : 24 < n) : spn sz i n = false := by
  cases e : spn sz i n
  · rfl
  · obtain ⟨a, b, _, rfl, h2⟩ := spn_nat hz e
    have := (nI_nlt (a := 24) (b := b) (by omega) (by omega))
    exact absurd h this
def fnd (s : shs) (la : Int32) (i n : Int32) : Int32 := match s with
  | none => -11
  | some (l, sz, _) => if nI l = la then (if spn sz i n then 0 else -13) else -12
theorem e_faultOf {S : st_S} {k : Nat} {s : shs} (hk : k < 4) (h : Ho S k s) {la i n : Int32} {Q : aw_R} : tr_X4_faultOf [.ref (50 + 2 * k), .int la, .int i, .int n] (hp S) Q = Q (some (.int (fnd s la i n))) (hp S) := by
  rw [propext tq_X4_faultOf]
  unfold sm_X4_faultOf_0
  rw [hq_I (k := 0) (s_k k hk).1 rfl]
  cases s with
  | none =>
    have h : S.1 (50 + 2 * k) 0 = 0 := h
    rw [h, if_neg (by decide)]
    rfl
  | some v =>
    obtain ⟨l, sz, f⟩ := v
    obtain ⟨a1, a2, a3, a4, a5, a6⟩ := h
    rw [a3, if_pos (by decide), hq_I (k := 1) (s_k k hk).1 rfl, a4]
    show _ = Q (some (.int (if nI l = la then (if spn sz i n then 0 else -13) else -12))) (hp S)
    by_cases hl : nI l = la
    · rw [if_pos hl, if_pos hl, s_v hk, e_spans hk a5]
      simp only [sr_I]
      cases spn sz i n <;> simp
    · rw [if_neg hl, if_neg hl]
theorem l_r {S : st_S} {p n : Nat} (hk : kd p = 10) (hl : ln p = 4) (h : n < 4) {K : Int32 → Prop} : sa_I (hp S) p (nI n) K = K (S.2.1 p n) := by
  rw [ha_I hk, cl (by omega), hl]
  exact propext ⟨fun q => q.2, fun q => ⟨vi h (by decide), q⟩⟩
theorem l_s {S : st_S} {p n : Nat} (hk : kd p = 10) (hl : ln p = 4) (h : n < 4) {x : Int32} {K : aw_H → Prop} : ss_I (hp S) p (nI n) x K = K (hp (sA S p n x)) := by
  rw [hs_I hk, cl (by omega), hl]
  exact propext ⟨fun q => q.2, fun q => ⟨vi h (by decide), q⟩⟩
theorem e_found {S : st_S} {k : Nat} {s : shs} (hk : k < 4) (h : Hm S k s) (hz : ∀ l sz f, s = some (l, sz, f) → sz ≤ 24) {la i n : Int32} {Q : aw_R} : tr_X7_found [.ref 58, .int (nI k), .int la, .int i, .int n] (hp S) Q = Q (some (.int (fnd s la i n))) (hp S) := by
  rw [propext tq_X7_found]
  unfold sm_X7_found_0
  rw [m_6, l_r rfl rfl hk]
  cases s with
  | none =>
    have h : S.2.1 63 k = -4 := h
    rw [h, if_neg (by decide)]
    rfl
  | some v =>
    obtain ⟨l, sz, f⟩ := v
    obtain ⟨a1, a2, a3⟩ := h
    have hz' := hz l sz f rfl
    have n4 : ¬ nI sz = -4 := fun q => by
      have q := congrArg Int32.toInt q
      rw [nI_toInt (by omega)] at q
      have : ((-4 : Int32)).toInt = -4 := by decide
      omega
    rw [a1, if_pos n4, m_5, l_r rfl rfl hk, a2]
    show _ = Q (some (.int (if nI l = la then (if spn sz i n then 0 else -13) else -12))) (hp S)
    by_cases hl : nI l = la
    · rw [if_pos hl, if_pos hl]
      by_cases h24 : 24 < n
      · rw [spn_no hz' h24, if_pos h24]
        simp
      · rw [if_neg h24, m_6, l_r rfl rfl hk, a1]
        unfold spn
        by_cases h1 : i < 0
        · simp [h1]
        · by_cases h2 : n < 0
          · simp [h1, h2]
          · rw [if_neg h1, if_neg h2]
            by_cases h3 : nI sz - n < i
            · rw [if_neg (fun q => by
                have q := Int32.le_iff_toInt_le.mp q
                have h3 := Int32.lt_iff_toInt_lt.mp h3
                omega)]
              simp [h3]
            · rw [if_pos (Int32.le_iff_toInt_le.mpr (by
                have h3' : ¬ (nI sz - n).toInt < i.toInt := fun q => h3 (Int32.lt_iff_toInt_lt.mpr q)
                omega))]
              simp [h1, h2, h3]
    · rw [if_neg hl, if_neg hl]
def cutv (la : Nat) (v : Int64) : Int64 := if la = 0 then Int32.toInt64 ((Int32.toInt8 (Int64.toInt32 v)).toInt32) else if la = 1 then Int32.toInt64 ((Int32.toInt16 (Int64.toInt32 v)).toInt32) else if la = 2 then Int32.toInt64 (Int64.toInt32 v) else v
theorem e_cut {S : st_S} {k la : Nat} (hk : k < 4) (hl : S.1 (50 + 2 * k) 1 = nI la) (hla : la < 4) {v : Int64} {Q : aw_R} : tr_X4_cut [.ref (50 + 2 * k), .long v] (hp S) Q = Q (some (.long (cutv la v))) (hp S) := by
  rw [propext tq_X4_cut]
  unfold sm_X4_cut_0 cutv
  rw [hq_I (k := 1) (s_k k hk).1 rfl, hl]
  rcases (show la = 0 ∨ la = 1 ∨ la = 2 ∨ la = 3 by omega) with rfl | rfl | rfl | rfl
  · rw [if_pos p00, if_pos rfl]
  · rw [if_neg q10, if_pos p11, if_neg n10, if_pos rfl]
  · rw [if_neg q20, if_neg q21, if_pos p22, if_neg n20, if_neg n21, if_pos rfl]
  · rw [if_neg q30, if_neg q31, if_neg q32, if_neg n30, if_neg n31, if_neg n32]
def updL (f : Nat → Int64) (j : Nat) (v : Int64) : Nat → Int64 := fun k => if k = j then v else f k
theorem sL_at (S : st_S) (p j : Nat) (v : Int64) (k : Nat) : (sL S p j v).2.2 p k = if k = j then v else S.2.2 p k := by
  show (if p = p then vp_updL (S.2.2 p) j v else S.2.2 p) k = _
  rw [if_pos rfl]
  by_cases h : k = j
  · rw [if_pos h, h, pk_uLs]
  · rw [if_neg h, pk_uLn h]
theorem e_put {S : st_S} {k la sz : Nat} {f : Nat → Int64} (hk : k < 4) (h : Ho S k (some (la, sz, f))) {j : Nat} (hj : j < sz) {v : Int64} {Q : aw_R} : tr_X4_put [.ref (50 + 2 * k), .int (nI j), .long v] (hp S) Q = Q none (hp (sL S (51 + 2 * k) j (cutv la v))) := by
  obtain ⟨a1, a2, a3, a4, a5, a6⟩ := h
  rw [propext tq_X4_put]
  unfold sm_X4_put_0
  rw [if_neg (nI_pos (by omega)), hq_I (k := 2) (s_k k hk).1 rfl, a5, if_neg (nI_ge hj (by omega)), s_3 hk, s_v hk, e_cut hk a4 a1]
  simp only [sr_L]
  rw [hs_L (s_k k hk).2.1, (s_k k hk).2.2, cl (by omega)]
  exact propext ⟨fun q => q.2, fun q => ⟨vi (by omega) (by omega), q⟩⟩
theorem Ho.put {S : st_S} {k la sz : Nat} {f : Nat → Int64} (h : Ho S k (some (la, sz, f))) (j : Nat) (v : Int64) : Ho (sL S (51 + 2 * k) j v) k (some (la, sz, updL f j v)) := by
  obtain ⟨a1, a2, a3, a4, a5, a6⟩ := h
  refine ⟨a1, a2, a3, a4, a5, fun i hi => ?_⟩
  rw [sL_at]
  show _ = if i = j then v else f i
  by_cases hij : i = j
  · rw [if_pos hij, if_pos hij]
  · rw [if_neg hij, if_neg hij]
    exact a6 i hi
theorem Hm.put {S : st_S} {σ : sg} (h : MI S σ) {k la sz : Nat} {f : Nat → Int64} (hk : k < 4) (hs : σ.2.2.2.2 k = some (la, sz, f)) (hz : ∀ i, i < 4 → ∀ l n f, σ.2.2.2.2 i = some (l, n, f) → l < 4 ∧ n ≤ 24) {j : Nat} (hj : j < 24) (v : Int64) : ∀ i, i < 4 → Hm (sL S 61 (24 * k + j) v) i (if i = k then some (la, sz, updL f j v) else σ.2.2.2.2 i) := by
  intro i hi
  have h5 := h.2.2.2.2 i hi
  by_cases hik : i = k
  · rw [if_pos hik]
    rw [hik, hs] at h5
    obtain ⟨b1, b2, b3⟩ := h5
    have hz' := hz k hk la sz f hs
    refine ⟨by rw [hik]; exact b1, by rw [hik]; exact b2, fun t ht => ?_⟩
    rw [hik, sL_at]
    show _ = if t = j then v else f t
    by_cases htj : t = j
    · rw [if_pos (by omega), if_pos htj]
    · rw [if_neg (by omega), if_neg htj]
      exact b3 t ht
  · rw [if_neg hik]
    cases e : σ.2.2.2.2 i with
    | none =>
      rw [e] at h5
      exact h5
    | some q =>
      obtain ⟨l2, n2, f2⟩ := q
      rw [e] at h5
      have hz' := hz i hi l2 n2 f2 e
      obtain ⟨b1, b2, b3⟩ := h5
      refine ⟨b1, b2, fun t ht => ?_⟩
      rw [sL_at, if_neg (by omega)]
      exact b3 t ht
theorem Sx.sh {S : st_S} {p j : Nat} {v : Int64} {q : Nat} (h : q ≠ p) : Sa S (sL S p j v) q := Sx.L (ps := [p]) (by simp) q (by simp [h])
theorem nI_d {i j : Nat} : (24 : Int32) * nI i + nI j = nI (24 * i + j) := by
  rw [show (24 : Int32) = nI 24 from rfl, pk_mul, nI_add]
theorem m_ls {S : st_S} {n : Nat} (h : n < 96) {x : Int64} {K : aw_H → Prop} : ss_L (hp S) 61 (nI n) x K = K (hp (sL S 61 n x)) := by
  rw [hs_L (p := 61) rfl, cl (by omega)]
  exact propext ⟨fun q => q.2, fun q => ⟨vi (show n < ln 61 from h) (by decide), q⟩⟩
theorem m_lr {S : st_S} {n : Nat} (h : n < 96) {K : Int64 → Prop} : sa_L (hp S) 61 (nI n) K = K (S.2.2 61 n) := by
  rw [ha_L (p := 61) rfl, cl (by omega)]
  exact propext ⟨fun q => q.2, fun q => ⟨vi (show n < ln 61 from h) (by decide), q⟩⟩
theorem fnd_0 {s : shs} {la i n : Int32} : fnd s la i n = 0 ∨ fnd s la i n = -11 ∨ fnd s la i n = -12 ∨ fnd s la i n = -13 := by
  cases s with
  | none => exact Or.inr (Or.inl rfl)
  | some v =>
    obtain ⟨l, sz, f⟩ := v
    show (if nI l = la then (if spn sz i n then (0 : Int32) else -13) else -12) = 0 ∨ (if nI l = la then (if spn sz i n then (0 : Int32) else -13) else -12) = -11 ∨ (if nI l = la then (if spn sz i n then (0 : Int32) else -13) else -12) = -12 ∨ (if nI l = la then (if spn sz i n then (0 : Int32) else -13) else -12) = -13
    split
    · split
      · exact Or.inl rfl
      · exact Or.inr (Or.inr (Or.inr rfl))
    · exact Or.inr (Or.inr (Or.inl rfl))
theorem fnd_neg {s : shs} {la i n : Int32} (h : ¬ fnd s la i n = 0) : ¬ 0 ≤ fnd s la i n := by
  rcases fnd_0 (s := s) (la := la) (i := i) (n := n) with q | q | q | q
  · exact absurd q h
  · rw [q]; decide
  · rw [q]; decide
  · rw [q]; decide
theorem fnd_ok {s : shs} {la : Nat} {i n : Int32} (hla : la < 4) (hz : ∀ l sz f, s = some (l, sz, f) → l < 4 ∧ sz ≤ 24) (h : fnd s (nI la) i n = 0) : ∃ sz f a b, s = some (la, sz, f) ∧ i = nI a ∧ n = nI b ∧ a + b ≤ sz ∧ sz ≤ 24 := by
  cases s with
  | none => exact absurd (show (-11 : Int32) = 0 from h) (by decide)
  | some v =>
    obtain ⟨l, sz, f⟩ := v
    have hz' := hz l sz f rfl
    have h : (if nI l = nI la then (if spn sz i n then (0 : Int32) else -13) else -12) = 0 := h
    by_cases hl : nI l = nI la
    · rw [if_pos hl] at h
      cases hs : spn sz i n
      · rw [hs] at h
        exact absurd h (by decide)
      · obtain ⟨a, b, h1, h2, h3⟩ := spn_nat hz'.2 hs
        have : l = la := (nI_eq (by omega) (by omega)).mp hl
        subst this
        exact ⟨sz, f, a, b, rfl, h1, h2, h3, hz'.2⟩
    · rw [if_neg hl] at h
      exact absurd h (by decide)
theorem op_item {σ : sg} (wf : Wf σ) (x y z : Int32) (v : Int64) : Op tr_X6_item tr_X7_item σ [.int x, .int y, .int z, .long v] := by
  have wz := wf.2.2.2.2.2
  rcases in_4 x with ⟨k, hk, rfl, e1⟩ | e1
  · rcases in_4 y with ⟨la, hla, rfl, e2⟩ | e2
    · by_cases hf : fnd (σ.2.2.2.2 k) (nI la) z 1 = 0
      · obtain ⟨sz, f, a, b, hs, rfl, hb, hab, hz⟩ := fnd_ok hla (fun l sz f e => wz k hk l sz f e) hf
        have hb1 : b = 1 := by
          have : b < 2 ^ 31 := by omega
          exact ((nI_eq (a := 1) (by omega) this).mp hb).symm
        refine ⟨1, shp σ k (some (la, sz, updL f a (cutv la v))), fun S Q h hq => ?_, fun S Q h hq => ?_⟩
        · rw [tq_X6_item]; unfold sm_X6_item_0
          have ho := h.2.2.2.2 k hk
          rw [e_CisLane, e1, if_neg (by decide), e2]
          simp only [sr_I]
          rw [if_pos (by decide), c_8, s_r hk, s_v hk, e_faultOf hk ho, hf]
          simp only [sr_I]
          rw [hs] at ho
          rw [if_pos trivial, s_v hk, e_put hk ho (by omega)]
          simp only [sr_V]
          exact hq _ ((Sx.L (ps := [51 + 2 * k]) (by simp)).fc (by simp; omega)) (h.sh (fun q _ _ q2 => Sx.sh q2) hk (ho.put a _))
        · rw [tq_X7_item]; unfold sm_X7_item_0
          have ho := h.2.2.2.2 k hk
          rw [e_MisSheet, e1]
          simp only [sr_I]
          rw [if_neg (by decide), e_MisLane, e2]
          simp only [sr_I]
          rw [if_pos (by decide), m_v, e_found hk ho (fun l sz f e => (wz k hk l sz f e).2), hf]
          simp only [sr_I]
          rw [if_pos (by decide), m_4, nI_d, m_ls (by omega), m_ls (by omega), m_ls (by omega), m_ls (by omega)]
          have fin := hq (sL S 61 (24 * k + a) (cutv la v)) (Fm.G (by omega)) (h.sh rfl rfl rfl (Hm.put h hk hs wz (by omega) _))
          unfold cutv at fin
          rcases (show la = 0 ∨ la = 1 ∨ la = 2 ∨ la = 3 by omega) with rfl | rfl | rfl | rfl
          · rw [if_pos rfl] at fin
            rw [if_neg (fun q => q p00)]
            exact fin
          · rw [if_neg n10, if_pos rfl] at fin
            rw [if_pos q10, if_neg (fun q => q p11)]
            exact fin
          · rw [if_neg n20, if_neg n21, if_pos rfl] at fin
            rw [if_pos q20, if_pos q21, if_neg (fun q => q p22)]
            exact fin
          · rw [if_neg n30, if_neg n31, if_neg n32] at fin
            rw [if_pos q30, if_pos q31, if_pos q32]
            exact fin
      · refine Op.same (fnd (σ.2.2.2.2 k) (nI la) z 1) (fun S Q h hq => ?_) (fun S Q h hq => ?_)
        · rw [tq_X6_item]; unfold sm_X6_item_0
          have ho := h.2.2.2.2 k hk
          rw [e_CisLane, e1, if_neg (by decide), e2]
          simp only [sr_I]
          rw [if_pos (by decide), c_8, s_r hk, s_v hk, e_faultOf hk ho]
          simp only [sr_I]
          rw [if_neg hf]
          exact hq
        · rw [tq_X7_item]; unfold sm_X7_item_0
          have ho := h.2.2.2.2 k hk
          rw [e_MisSheet, e1]
          simp only [sr_I]
          rw [if_neg (by decide), e_MisLane, e2]
          simp only [sr_I]
          rw [if_pos (by decide), m_v, e_found hk ho (fun l sz f e => (wz k hk l sz f e).2)]
          simp only [sr_I]
          rw [if_neg (fnd_neg hf)]
          exact hq
    · refine Op.same (-1) (fun S Q h hq => ?_) (fun S Q h hq => ?_)
      · rw [tq_X6_item]; unfold sm_X6_item_0
        rw [e_CisLane, e1, if_neg (by decide), e2]
        simp only [sr_I]
        rw [if_neg (by decide)]
        exact hq
      · rw [tq_X7_item]; unfold sm_X7_item_0
        rw [e_MisSheet, e1]
        simp only [sr_I]
        rw [if_neg (by decide), e_MisLane, e2]
        simp only [sr_I]
        rw [if_neg (by decide)]
        exact hq
  · refine Op.same (-1) (fun S Q h hq => ?_) (fun S Q h hq => ?_)
    · rw [tq_X6_item]; unfold sm_X6_item_0
      rw [e_CisLane, e1, if_pos rfl]
      simp only [sr_I]
      rw [if_neg (by decide)]
      exact hq
    · rw [tq_X7_item]; unfold sm_X7_item_0
      rw [e_MisSheet, e1]
      simp only [sr_I]
      rw [if_pos (by decide)]
      exact hq
theorem op_drop {σ : sg} (wf : Wf σ) (x : Int32) : Op tr_X6_drop tr_X7_drop σ [.int x] := by
  have wz := wf.2.2.2.2.2
  rcases in_4 x with ⟨k, hk, rfl, e1⟩ | e1
  · cases hs : σ.2.2.2.2 k with
    | none =>
      refine Op.same (-11) (fun S Q h hq => ?_) (fun S Q h hq => ?_)
      · rw [tq_X6_drop]; unfold sm_X6_drop_0
        have ho := h.2.2.2.2 k hk
        rw [hs] at ho
        have ho : S.1 (50 + 2 * k) 0 = 0 := ho
        rw [e_CisSheet, e1]
        simp only [sr_I]
        rw [if_pos (by decide), c_8, s_r hk, hq_I (k := 0) (s_k k hk).1 rfl, ho, if_neg (by decide)]
        exact hq
      · rw [tq_X7_drop]; unfold sm_X7_drop_0
        have ho := h.2.2.2.2 k hk
        rw [hs] at ho
        have ho : S.2.1 63 k = -4 := ho
        rw [e_MisSheet, e1]
        simp only [sr_I]
        rw [if_pos (by decide), m_6, l_r rfl rfl hk, ho, if_neg (by decide)]
        exact hq
    | some q =>
      obtain ⟨la, sz, f⟩ := q
      have hz := wz k hk la sz f hs
      refine ⟨nI sz, shp σ k none, fun S Q h hq => ?_, fun S Q h hq => ?_⟩
      · rw [tq_X6_drop]; unfold sm_X6_drop_0
        have ho := h.2.2.2.2 k hk
        rw [hs] at ho
        obtain ⟨a1, a2, a3, a4, a5, a6⟩ := ho
        rw [e_CisSheet, e1]
        simp only [sr_I]
        rw [if_pos (by decide), c_8, s_r hk, hq_I (k := 0) (s_k k hk).1 rfl, a3, if_pos (by decide), hq_P (k := 0) (s_k k hk).1 rfl, hq_I (k := 2) (s_k k hk).1 rfl, sI_ne _ _ (by omega), a5]
        exact hq _ ((Sx.I (ps := [50 + 2 * k]) (by simp)).fc (by simp; omega)) (h.sh (fun q _ q1 _ => Sa.I q1) hk (sI_at _ _ _ _))
      · rw [tq_X7_drop]; unfold sm_X7_drop_0
        have ho := h.2.2.2.2 k hk
        rw [hs] at ho
        obtain ⟨a1, a2, a3⟩ := ho
        have n4 : ¬ nI sz = -4 := fun q => by
          have q := congrArg Int32.toInt q
          rw [nI_toInt (by omega)] at q
          have : ((-4 : Int32)).toInt = -4 := by decide
          omega
        rw [e_MisSheet, e1]
        simp only [sr_I]
        rw [if_pos (by decide), m_6, l_r rfl rfl hk, a1, if_pos n4, m_6, l_r rfl rfl hk, a1, m_6, l_s rfl rfl hk, sA_F]
        refine hq _ (Fm.F (by omega)) (h.sh (sF_ne _ _ (by omega)) rfl (sF_ne _ _ (by omega)) (fun i hi => ?_))
        have h5 := h.2.2.2.2 i hi
        by_cases hik : i = k
        · rw [if_pos hik, hik]
          show (sF S 63 _).2.1 63 k = -4
          rw [sF_at, pk_us]
        · rw [if_neg hik]
          cases e : σ.2.2.2.2 i with
          | none =>
            rw [e] at h5
            show (sF S 63 _).2.1 63 i = -4
            rw [sF_at, pk_un hik]
            exact h5
          | some q =>
            obtain ⟨l2, n2, f2⟩ := q
            rw [e] at h5
            obtain ⟨b1, b2, b3⟩ := h5
            refine ⟨?_, ?_, b3⟩
            · rw [sF_at, pk_un hik]; exact b1
            · rw [sF_ne _ _ (by omega)]; exact b2
  · refine Op.same (-1) (fun S Q h hq => ?_) (fun S Q h hq => ?_)
    · rw [tq_X6_drop]; unfold sm_X6_drop_0
      rw [e_CisSheet, e1]
      simp only [sr_I]
      rw [if_neg (by decide)]
      exact hq
    · rw [tq_X7_drop]; unfold sm_X7_drop_0
      rw [e_MisSheet, e1]
      simp only [sr_I]
      rw [if_neg (by decide)]
      exact hq
