/-! the greatest common divisor; likely -/
theorem gcd_go (x y : Nat) : Nat.gcd y (x % y) = Nat.gcd x y := by
  rw [Nat.gcd_comm y, ← Nat.gcd_rec, Nat.gcd_comm]
theorem i_Mgcd {x y : Nat} (hx : x < 2 ^ 31) (hy : y < 2 ^ 31) {h : aw_H} {Q : aw_R} (hq : Q (some (.int (nI (Nat.gcd x y)))) h) : tr_X7_common [.int (nI x), .int (nI y)] h Q := by
  rw [tq_X7_common]
  intro K4 r4
  have main : ∀ n x y, y ≤ n → x < 2 ^ 31 → y < 2 ^ 31 → Q (some (.int (nI (Nat.gcd x y)))) h → K4 (nI x) (nI y) h := by
    intro n
    induction n with
    | zero =>
      intro x y hn hx hy hq
      apply r4
      unfold sm_X7_common_4
      have h0 : y = 0 := Nat.le_zero.mp hn
      rw [h0, if_pos p00]
      rw [h0, Nat.gcd_zero_right] at hq
      exact hq
    | succ n ih =>
      intro x y hn hx hy hq
      apply r4
      unfold sm_X7_common_4
      by_cases h0 : y = 0
      · rw [h0, if_pos p00]
        rw [h0, Nat.gcd_zero_right] at hq
        exact hq
      · have := Nat.mod_lt x (Nat.pos_of_ne_zero h0)
        have n0 := nI_ne0 (Nat.pos_of_ne_zero h0) hy
        rw [if_neg n0]
        refine ⟨n0, ?_⟩
        rw [pk_rem hx (Nat.pos_of_ne_zero h0) hy]
        exact ih y (x % y) (by omega) hy (by omega) (by rw [gcd_go]; exact hq)
  exact main y x y (Nat.le_refl y) hx hy hq
theorem i_Cgcd {x y : Nat} (hx : x < 2 ^ 31) (hy : y < 2 ^ 31) {h : aw_H} {Q : aw_R} (hq : Q (some (.int (nI (Nat.gcd x y)))) h) : tr_X1_commonDivisor [.int (nI x), .int (nI y)] h Q := by
  rw [tq_X1_commonDivisor]
  intro K7 r7
  have main : ∀ k x y t, y < 2 ^ k → t + 2 * k ≤ 62 → x < 2 ^ 31 → y < 2 ^ 31 → Q (some (.int (nI (Nat.gcd x y)))) h → K7 (nI x) (nI y) (nI t) h := by
    intro k
    induction k with
    | zero =>
      intro x y t hk ht hx hy hq
      have h0 : y = 0 := by simpa using hk
      apply r7
      unfold sm_X1_commonDivisor_7
      rw [if_neg (show ¬ (64 : Int32) ≤ nI t from nI_ge (b := 64) (by omega) (by omega)), h0, if_pos p00]
      rw [h0, Nat.gcd_zero_right] at hq
      exact hq
    | succ k ih =>
      intro x y t hk ht hx hy hq
      apply r7
      unfold sm_X1_commonDivisor_7
      rw [if_neg (show ¬ (64 : Int32) ≤ nI t from nI_ge (b := 64) (by omega) (by omega))]
      by_cases h0 : y = 0
      · rw [h0, if_pos p00]
        rw [h0, Nat.gcd_zero_right] at hq
        exact hq
      · have l1 := Nat.mod_lt x (Nat.pos_of_ne_zero h0)
        have n0 := nI_ne0 (Nat.pos_of_ne_zero h0) hy
        rw [if_neg n0]
        refine ⟨n0, ?_⟩
        rw [pk_rem hx (Nat.pos_of_ne_zero h0) hy, nI_1]
        rw [← gcd_go] at hq
        generalize hr : x % y = r at *
        apply r7
        unfold sm_X1_commonDivisor_7
        rw [if_neg (show ¬ (64 : Int32) ≤ nI (t + 1) from nI_ge (b := 64) (by omega) (by omega))]
        by_cases h1 : r = 0
        · rw [h1, if_pos p00]
          rw [h1, Nat.gcd_zero_right] at hq
          exact hq
        · have l2 := Nat.mod_lt y (Nat.pos_of_ne_zero h1)
          have n1 := nI_ne0 (Nat.pos_of_ne_zero h1) (show r < 2 ^ 31 by omega)
          rw [if_neg n1]
          refine ⟨n1, ?_⟩
          rw [pk_rem hy (Nat.pos_of_ne_zero h1) (by omega), nI_1]
          have l3 : y % r ≤ y - r := by
            rw [Nat.mod_eq_sub_mod (show y ≥ r by omega)]
            exact Nat.mod_le _ _
          rw [Nat.pow_succ] at hk
          exact ih r (y % r) (t + 1 + 1) (by omega) (by omega) (by omega) (by omega) (by rw [gcd_go]; exact hq)
  exact main 31 x y 0 hy (by omega) hx hy hq
/-- the weight of a state -/
def wt (c s : Nat) : Nat → Nat
  | 0 => 1
  | k + 1 => wt c s k * (if s / 2 ^ k % 2 = 0 then 10 - c else c)
theorem wt_le {c s : Nat} (hc : c ≤ 10) : ∀ (k : Nat), wt c s k ≤ 10 ^ k
  | 0 => Nat.le_refl 1
  | k + 1 => by
    show wt c s k * _ ≤ 10 ^ (k + 1)
    rw [Nat.pow_succ]
    exact Nat.mul_le_mul (wt_le hc k) (by split <;> omega)
def lko (B : bd) (v c : Nat) : Nat → Nat := fb_sm (fun s => if rn B s / 2 ^ v % 2 = 0 then 0 else wt c s (bW B))
theorem p10_6 {w : Nat} (h : w ≤ 6) : 10 ^ w ≤ 1000000 := Nat.pow_le_pow_right (n := 10) (by omega) h
theorem lko_le {B : bd} (ok : Bok B) {v c : Nat} (hc : c ≤ 10) {s : Nat} (hs : s ≤ 2 ^ bW B) : lko B v c s ≤ 64000000 := by
  have h1 := fb_sm_bound (f := fun s => if rn B s / 2 ^ v % 2 = 0 then 0 else wt c s (bW B)) (c := 1000000) (n := s) (fun k _ => by
    have := wt_le (s := k) hc (bW B)
    have := p10_6 ok.1.2
    show (if rn B k / 2 ^ v % 2 = 0 then 0 else wt c k (bW B)) ≤ _
    split <;> omega)
  have := pw_le ok.1.2
  have : s * 1000000 ≤ 64 * 1000000 := Nat.mul_le_mul_right _ (by omega)
  unfold lko
  omega
theorem i_weight {S : st_S} {B : bd} (hB : Bo S 1 B) (ok : Bok B) {s c : Nat} (hs : s < 64) (hc : c ≤ 10) {Q : aw_R} (hq : Q (some (.int (nI (wt c s (bW B))))) (hp S)) : tr_X1_weight [.ref 45, .int (nI s), .int (nI c)] (hp S) Q := by
  rw [tq_X1_weight]
  intro K5 r5
  have hw6 := ok.1.2
  have main : ∀ m k, k + m = bW B → K5 45 (nI s) (nI c) (nI (wt c s k)) (nI k) (hp S) := by
    intro m
    induction m with
    | zero =>
      intro k e
      apply r5
      unfold sm_X1_weight_5
      rw [f_0, hq_I (k := 0) k1 rfl, hB.1, if_pos (nI_le (by omega) (by omega)), show k = bW B by omega]
      exact hq
    | succ m ih =>
      intro k e
      apply r5
      unfold sm_X1_weight_5
      have ih' := ih (k + 1) (by omega)
      have e1 : wt c s (k + 1) = wt c s k * (if s / 2 ^ k % 2 = 0 then 10 - c else c) := rfl
      rw [f_0, hq_I (k := 0) k1 rfl, hB.1, if_neg (nI_ge (by omega) (by omega)), gx_has s hs k (by omega), show (10 : Int32) - nI c = nI (10 - c) from pk_sub (a := 10) hc, pk_mul, pk_mul, nI_1]
      by_cases hb : s / 2 ^ k % 2 = 0
      · rw [e1, if_pos hb] at ih'
        rw [hb, if_pos p00]
        exact ih'
      · rw [e1, if_neg hb] at ih'
        rw [if_neg (nI_ne0 (Nat.pos_of_ne_zero hb) (by omega))]
        exact ih'
  exact main (bW B) 0 (by omega)
theorem i_likelyC {S : st_S} {B : bd} (hB : Bo S 1 B) (ok : Bok B) {v c a : Nat} (hv : v < bW B) (hc : c ≤ 10) (ha : a < 2) {Q : aw_R} (hq : Q (some (.int (if a = 0 then nI (10 ^ bW B / Nat.gcd (lko B v c (2 ^ bW B)) (10 ^ bW B)) else nI (lko B v c (2 ^ bW B) / Nat.gcd (lko B v c (2 ^ bW B)) (10 ^ bW B))))) (hp S)) : tr_X1_likelySet [.ref 45, .int (nI v), .int (nI c), .int (nI a)] (hp S) Q := by
  rw [tq_X1_likelySet]
  intro K15 K62 r15 r62
  have hw6 := ok.1.2
  have hw := pw_le hw6
  have hp10 := p10_6 hw6
  have hlk := lko_le ok (v := v) hc (Nat.le_refl (2 ^ bW B))
  have p0 : 0 < 10 ^ bW B := Nat.pow_pos (by omega)
  have g0 : 0 < Nat.gcd (lko B v c (2 ^ bW B)) (10 ^ bW B) := Nat.gcd_pos_of_pos_right _ p0
  have g1 : Nat.gcd (lko B v c (2 ^ bW B)) (10 ^ bW B) ≤ 10 ^ bW B := Nat.gcd_le_right _ p0
  have un : ∀ m k, k + m = bW B → K62 45 (nI a) (nI (lko B v c (2 ^ bW B))) (nI (10 ^ k)) (nI k) (hp S) := by
    intro m
    induction m with
    | zero =>
      intro k e
      apply r62
      unfold sm_X1_likelySet_62
      rw [f_0, hq_I (k := 0) k1 rfl, hB.1, if_pos (nI_le (by omega) (by omega)), show k = bW B by omega]
      refine i_Cgcd (by omega) (by omega) ?_
      simp only [sr_I]
      have n0 := nI_ne0 g0 (show _ < 2 ^ 31 by omega)
      have n1 := nI_nle g0 (show _ < 2 ^ 31 by omega)
      rw [if_neg n1, if_neg n1, pk_div (by omega) g0 (by omega), pk_div (by omega) g0 (by omega)]
      rcases (show a = 0 ∨ a = 1 by omega) with rfl | rfl
      · rw [if_pos p00]
        exact ⟨n0, hq⟩
      · rw [if_neg q10]
        exact ⟨n0, hq⟩
    | succ m ih =>
      intro k e
      apply r62
      unfold sm_X1_likelySet_62
      rw [f_0, hq_I (k := 0) k1 rfl, hB.1, if_neg (nI_ge (by omega) (by omega)), show nI (10 ^ k) * (10 : Int32) = nI (10 ^ (k + 1)) from pk_mul (10 ^ k) 10, nI_1]
      exact ih (k + 1) (by omega)
  have main : ∀ m s, s + m = 2 ^ bW B → K15 45 (nI v) (nI c) (nI a) (nI (lko B v c s)) (nI (2 ^ bW B)) (nI s) (hp S) := by
    intro m
    induction m with
    | zero =>
      intro s e
      apply r15
      unfold sm_X1_likelySet_15
      rw [if_pos (nI_le (by omega) (by omega)), show s = 2 ^ bW B by omega]
      exact un (bW B) 0 (by omega)
    | succ m ih =>
      intro s e
      apply r15
      unfold sm_X1_likelySet_15
      have l1 : grun (bG B) (bN B) s < 2 ^ bW B := rn_w ok (show s < 2 ^ bW B by omega)
      have ih' := ih (s + 1) (by omega)
      have e1 : lko B v c (s + 1) = lko B v c s + (if grun (bG B) (bN B) s / 2 ^ v % 2 = 0 then 0 else wt c s (bW B)) := rfl
      rw [if_neg (nI_ge (by omega) (by omega)), f_0, b_v]
      refine i_run k1 hB ok (by omega) ?_
      simp only [sr_I]
      rw [gx_has _ (by omega) v (by omega), nI_1]
      by_cases hb : grun (bG B) (bN B) s / 2 ^ v % 2 = 0
      · rw [e1, if_pos hb, Nat.add_zero] at ih'
        rw [hb, if_pos p00]
        exact ih'
      · rw [e1, if_neg hb] at ih'
        rw [if_neg (nI_ne0 (Nat.pos_of_ne_zero hb) (by omega)), f_v]
        refine i_weight hB ok (by omega) hc ?_
        simp only [sr_I]
        rw [nI_add]
        exact ih'
  unfold sm_X1_likelySet_0
  rw [f_0, b_v, e_Bstates k1 hB ok]
  simp only [sr_I]
  exact main (2 ^ bW B) 0 (by omega)
theorem i_likelyM {S : st_S} {σ : sg} (h1 : MI S σ) (wf : Wf σ) (t1 : tbl S 64 σ.1) {v c : Nat} {y : Int32} (hv : v < bW σ.1) (hc : c ≤ 10) {K42 : Nat → Int32 → Int32 → Int32 → Int32 → Int32 → Int32 → aw_H → Prop} {K69 : Nat → Int32 → Int32 → Int32 → Int32 → Int32 → Int32 → aw_H → Prop} {K102 : Nat → Int32 → Int32 → Int32 → Int32 → Int32 → Int32 → Int32 → Int32 → aw_H → Prop} {Q : aw_R}
    (r42 : ∀ (p0 : Nat) (x1 : Int32) (x2 : Int32) (x3 : Int32) (x4 : Int32) (x5 : Int32) (x6 : Int32) (h : aw_H), sm_X7_likely_42 K42 K69 K102 Q p0 x1 x2 x3 x4 x5 x6 h → K42 p0 x1 x2 x3 x4 x5 x6 h)
    (r69 : ∀ (p0 : Nat) (x1 : Int32) (x2 : Int32) (x3 : Int32) (x4 : Int32) (x5 : Int32) (x6 : Int32) (h : aw_H), sm_X7_likely_69 K42 K69 K102 Q p0 x1 x2 x3 x4 x5 x6 h → K69 p0 x1 x2 x3 x4 x5 x6 h)
    (r102 : ∀ (p0 : Nat) (x1 : Int32) (x2 : Int32) (x3 : Int32) (x4 : Int32) (x5 : Int32) (x6 : Int32) (x7 : Int32) (x8 : Int32) (h : aw_H), sm_X7_likely_102 K42 K69 K102 Q p0 x1 x2 x3 x4 x5 x6 x7 x8 h → K102 p0 x1 x2 x3 x4 x5 x6 x7 x8 h)
    (hq : if ¬ y = 0 then Q (some (.int (nI (10 ^ bW σ.1 / Nat.gcd (lko σ.1 v c (2 ^ bW σ.1)) (10 ^ bW σ.1))))) (hp S) else Q (some (.int (nI (lko σ.1 v c (2 ^ bW σ.1) / Nat.gcd (lko σ.1 v c (2 ^ bW σ.1)) (10 ^ bW σ.1))))) (hp S)) : K42 58 (nI v) (nI c) y 0 1 0 (hp S) := by
  have ok := wf.1
  have hw6 := ok.1.2
  have hw := pw_le hw6
  have hp10 := p10_6 hw6
  have hlk := lko_le ok (v := v) hc (Nat.le_refl (2 ^ bW σ.1))
  have p0 : 0 < 10 ^ bW σ.1 := Nat.pow_pos (by omega)
  have g0 : 0 < Nat.gcd (lko σ.1 v c (2 ^ bW σ.1)) (10 ^ bW σ.1) := Nat.gcd_pos_of_pos_right _ p0
  have g1 : Nat.gcd (lko σ.1 v c (2 ^ bW σ.1)) (10 ^ bW σ.1) ≤ 10 ^ bW σ.1 := Nat.gcd_le_right _ p0
  have w0 : ∀ K, sa_I (hp S) 59 0 K = K (nI (bW σ.1)) := fun K => by
    rw [show (sa_I (hp S) 59 0 K) = _ from m_wn (n := 0) (by omega), show S.2.1 59 0 = nI (bW σ.1) from h1.1.1]
  have inn : ∀ m k s b T, s < 2 ^ bW σ.1 → k + m = bW σ.1 → K69 58 (nI v) (nI c) y (nI T + nI (b * wt c s (bW σ.1))) (nI (10 ^ bW σ.1)) (nI (s + 1)) (hp S) → K102 58 (nI v) (nI c) y (nI T) (nI (10 ^ bW σ.1)) (nI s) (nI (b * wt c s k)) (nI k) (hp S) := by
    intro m
    induction m with
    | zero =>
      intro k s b T hs e hk
      apply r102
      unfold sm_X7_likely_102
      rw [m_0, w0, if_pos (nI_le (by omega) (by omega)), show k = bW σ.1 by omega, nI_1]
      exact hk
    | succ m ih =>
      intro k s b T hs e hk
      apply r102
      unfold sm_X7_likely_102
      have ih' := ih (k + 1) s b T hs (by omega) hk
      have e1 : b * wt c s (k + 1) = b * wt c s k * (if s / 2 ^ k % 2 = 0 then 10 - c else c) := by
        show b * (wt c s k * _) = _
        rw [Nat.mul_assoc]
      rw [m_0, w0, if_neg (nI_ge (by omega) (by omega)), e_has, has_nat (by omega) (by omega)]
      simp only [sr_I]
      rw [show (10 : Int32) - nI c = nI (10 - c) from pk_sub (a := 10) hc, pk_mul, pk_mul, nI_1]
      by_cases hb : s / 2 ^ k % 2 = 0
      · rw [e1, if_pos hb] at ih'
        rw [hb, if_pos p00]
        exact ih'
      · rw [e1, if_neg hb] at ih'
        rw [if_neg (nI_ne0 (Nat.pos_of_ne_zero hb) (by omega))]
        exact ih'
  have main : ∀ m s, s + m = 2 ^ bW σ.1 → K69 58 (nI v) (nI c) y (nI (lko σ.1 v c s)) (nI (10 ^ bW σ.1)) (nI s) (hp S) := by
    intro m
    induction m with
    | zero =>
      intro s e
      apply r69
      unfold sm_X7_likely_69
      rw [m_v, e_Mstates h1.1 ok]
      simp only [sr_I]
      rw [if_pos (nI_le (by omega) (by omega)), show s = 2 ^ bW σ.1 by omega]
      refine i_Mgcd (by omega) (by omega) ?_
      simp only [sr_I]
      have n0 := nI_ne0 g0 (show _ < 2 ^ 31 by omega)
      rw [pk_div (by omega) g0 (by omega), pk_div (by omega) g0 (by omega)]
      by_cases hy : y = 0
      · rw [if_neg (fun q => q hy)]
        rw [if_neg (fun q => q hy)] at hq
        exact ⟨n0, hq⟩
      · rw [if_pos hy]
        rw [if_pos hy] at hq
        exact ⟨n0, hq⟩
    | succ m ih =>
      intro s e
      apply r69
      unfold sm_X7_likely_69
      have l1 := rn_w ok (show s < 2 ^ bW σ.1 by omega)
      have ih' := ih (s + 1) (by omega)
      have e1 : lko σ.1 v c (s + 1) = lko σ.1 v c s + (if rn σ.1 s / 2 ^ v % 2 = 0 then 0 else wt c s (bW σ.1)) := rfl
      rw [m_v, e_Mstates h1.1 ok]
      simp only [sr_I]
      rw [if_neg (nI_ge (by omega) (by omega)), m_7, t_r (by omega), t1 s (by omega), e_has, has_nat (by omega) (by omega)]
      simp only [sr_I]
      by_cases hb : rn σ.1 s / 2 ^ v % 2 = 0
      · rw [hb, if_pos p00]
        rw [e1, if_pos hb, ← nI_add] at ih'
        have := inn (bW σ.1) 0 s 0 (lko σ.1 v c s) (by omega) (by omega) (by rw [Nat.zero_mul]; exact ih')
        exact this
      · rw [if_neg (nI_ne0 (Nat.pos_of_ne_zero hb) (by omega))]
        rw [e1, if_neg hb, ← nI_add] at ih'
        have := inn (bW σ.1) 0 s 1 (lko σ.1 v c s) (by omega) (by omega) (by rw [Nat.one_mul]; exact ih')
        exact this
  have un : ∀ m k, k + m = bW σ.1 → K42 58 (nI v) (nI c) y 0 (nI (10 ^ k)) (nI k) (hp S) := by
    intro m
    induction m with
    | zero =>
      intro k e
      apply r42
      unfold sm_X7_likely_42
      rw [m_0, w0, if_pos (nI_le (by omega) (by omega)), show k = bW σ.1 by omega]
      exact main (2 ^ bW σ.1) 0 (by omega)
    | succ m ih =>
      intro k e
      apply r42
      unfold sm_X7_likely_42
      rw [m_0, w0, if_neg (nI_ge (by omega) (by omega)), show nI (10 ^ k) * (10 : Int32) = nI (10 ^ (k + 1)) from pk_mul (10 ^ k) 10, nI_1]
      exact ih (k + 1) (by omega)
  exact un (bW σ.1) 0 (by omega)
theorem op_likely {σ : sg} (wf : Wf σ) (x z y : Int32) : Op tr_X6_likely tr_X7_likely σ [.int x, .int z, .int y] := by
  have hw6 := wf.1.1.2
  rcases inb_nat (x := x) (n := bW σ.1) (by omega) with ⟨v, hv, rfl, e⟩ | ⟨hj, e⟩
  · rcases inb_0m z 10 with ⟨hz, e2⟩ | ⟨hz, hz2, e2⟩ | ⟨c, hc, rfl, hz, hz2, e2⟩
    · refine Op.same (-1) (fun S Q h hq => ?_) (fun S Q h hq => ?_)
      · rw [tq_X6_likely]; unfold sm_X6_likely_0
        rw [c_v, e_CisWire h.1.2 h.1.1, e]
        simp only [sr_I]
        rw [if_neg (by decide), if_pos hz]
        exact hq
      · rw [tq_X7_likely]; intro K K' K'' r r' r''; unfold sm_X7_likely_0
        rw [m_v, e_MisWire h.1, e]
        simp only [sr_I]
        rw [if_neg (by decide), e_in, e2]
        simp only [sr_I]
        rw [if_pos (by decide)]
        exact hq
    · refine Op.same (-1) (fun S Q h hq => ?_) (fun S Q h hq => ?_)
      · rw [tq_X6_likely]; unfold sm_X6_likely_0
        rw [c_v, e_CisWire h.1.2 h.1.1, e]
        simp only [sr_I]
        rw [if_neg (by decide), if_neg hz, if_pos (fa_of_nle hz2)]
        exact hq
      · rw [tq_X7_likely]; intro K K' K'' r r' r''; unfold sm_X7_likely_0
        rw [m_v, e_MisWire h.1, e]
        simp only [sr_I]
        rw [if_neg (by decide), e_in, e2]
        simp only [sr_I]
        rw [if_pos (by decide)]
        exact hq
    · have hc10 : c ≤ 10 := (nI_leI hc (by omega)).mp (show nI c ≤ nI 10 from hz2)
      have nz : ¬ (10 : Int32) < nI c := show ¬ nI 10 < nI c from nI_nlt hc10 (by omega)
      rcases in01 y with ⟨rfl, e3⟩ | ⟨rfl, e3⟩ | ⟨e3, hy⟩
      · refine ⟨nI (lko σ.1 v c (2 ^ bW σ.1) / Nat.gcd (lko σ.1 v c (2 ^ bW σ.1)) (10 ^ bW σ.1)), σ, fun S Q h hq => ?_, fun S Q h hq => ?_⟩
        · rw [tq_X6_likely]; unfold sm_X6_likely_0
          rw [c_v, e_CisWire h.1.2 h.1.1, e]
          simp only [sr_I]
          rw [if_neg (by decide), if_neg hz, if_neg nz, if_neg (by decide), if_pos (by decide), c_7, if_neg (by decide), f_v]
          refine i_likelyC (a := 1) h.1.2 h.1.1 hv hc10 (by omega) ?_
          simp only [sr_I]
          exact hq S (Fc.rf S) h
        · rw [tq_X7_likely]; intro K K' K'' r r' r''; unfold sm_X7_likely_0
          rw [m_v, e_MisWire h.1, e]
          simp only [sr_I]
          rw [if_neg (by decide), e_in, e2]
          simp only [sr_I]
          rw [if_neg (by decide), e_in, e3]
          simp only [sr_I]
          rw [if_pos (by decide), m_v]
          refine i_layRuns h wf (fun S1 f1 h1 t1 _ _ => ?_)
          simp only [sr_V]
          refine i_likelyM h1 wf t1 hv hc10 r r' r'' ?_
          rw [if_neg (by decide)]
          exact hq S1 f1 h1
      · refine ⟨nI (10 ^ bW σ.1 / Nat.gcd (lko σ.1 v c (2 ^ bW σ.1)) (10 ^ bW σ.1)), σ, fun S Q h hq => ?_, fun S Q h hq => ?_⟩
        · rw [tq_X6_likely]; unfold sm_X6_likely_0
          rw [c_v, e_CisWire h.1.2 h.1.1, e]
          simp only [sr_I]
          rw [if_neg (by decide), if_neg hz, if_neg nz, if_neg (by decide), if_pos (by decide), c_7, if_pos (by decide), f_v]
          refine i_likelyC (a := 0) h.1.2 h.1.1 hv hc10 (by omega) ?_
          simp only [sr_I]
          exact hq S (Fc.rf S) h
        · rw [tq_X7_likely]; intro K K' K'' r r' r''; unfold sm_X7_likely_0
          rw [m_v, e_MisWire h.1, e]
          simp only [sr_I]
          rw [if_neg (by decide), e_in, e2]
          simp only [sr_I]
          rw [if_neg (by decide), e_in, e3]
          simp only [sr_I]
          rw [if_pos (by decide), m_v]
          refine i_layRuns h wf (fun S1 f1 h1 t1 _ _ => ?_)
          simp only [sr_V]
          refine i_likelyM h1 wf t1 hv hc10 r r' r'' ?_
          rw [if_pos (by decide)]
          exact hq S1 f1 h1
      · refine Op.same (-1) (fun S Q h hq => ?_) (fun S Q h hq => ?_)
        · rw [tq_X6_likely]; unfold sm_X6_likely_0
          rw [c_v, e_CisWire h.1.2 h.1.1, e]
          simp only [sr_I]
          rw [if_neg (by decide), if_neg hz, if_neg nz]
          rcases hy with q | q
          · rw [if_pos q]; exact hq
          · rw [if_neg q]; split <;> exact hq
        · rw [tq_X7_likely]; intro K K' K'' r r' r''; unfold sm_X7_likely_0
          rw [m_v, e_MisWire h.1, e]
          simp only [sr_I]
          rw [if_neg (by decide), e_in, e2]
          simp only [sr_I]
          rw [if_neg (by decide), e_in, e3]
          simp only [sr_I]
          rw [if_neg (by decide)]
          exact hq
  · refine Op.same (-1) (fun S Q h hq => ?_) (fun S Q h hq => ?_)
    · rw [tq_X6_likely]; unfold sm_X6_likely_0
      rw [c_v, e_CisWire h.1.2 h.1.1, e]
      simp only [sr_I]
      rw [if_pos (by decide)]
      exact hq
    · rw [tq_X7_likely]; intro K K' K'' r r' r''; unfold sm_X7_likely_0
      rw [m_v, e_MisWire h.1, e]
      simp only [sr_I]
      rw [if_pos (by decide)]
      exact hq
