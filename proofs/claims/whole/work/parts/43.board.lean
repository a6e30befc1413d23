/-! THE CLASS'S BOARD -/
theorem bx_all : ∀ p, p < 68 → kd p = 0 → kd (p + 1) = 10 ∧ ln (p + 1) = 16 := by decide +kernel
theorem bx {p : Nat} (hk : kd p = 0) : kd (p + 1) = 10 ∧ ln (p + 1) = 16 := bx_all p (kd_lt hk (by decide)) hk
theorem shl1 : ∀ g, g < 31 → ((1 : Int32) <<< (nI g &&& 31)) = nI (2 ^ g) := by decide +kernel
theorem pw_le {w : Nat} (h : w ≤ 6) : 2 ^ w ≤ 64 := Nat.pow_le_pow_right (by omega) h
theorem e_Bstates {S : st_S} {p : Nat} {B : bd} (hk : kd p = 0) (hB : Bo S p B) (ok : Bok B) {Q : aw_R} : tr_X0_states [.ref p] (hp S) Q = Q (some (.int (nI (2 ^ bW B)))) (hp S) := by
  rw [propext tq_X0_states]
  unfold sm_X0_states_0
  rw [hq_I (k := 0) hk rfl, hB.1, shl1 _ (by have := ok.1; omega)]
theorem i_run {S : st_S} {p : Nat} {B : bd} (hk : kd p = 0) (hB : Bo S p B) (ok : Bok B) {s : Nat} (hs : s < 64) {Q : aw_R} (hq : Q (some (.int (nI (grun (bG B) (bN B) s)))) (hp S)) : tr_X0_run [.ref p, .int (nI s)] (hp S) Q := by
  rw [tq_X0_run]
  intro K4 r4
  obtain ⟨hk1, hl1⟩ := bx hk
  obtain ⟨⟨hw1, hw2⟩, hn, hb, hpl, hdr, hg⟩ := ok
  have main : ∀ m g, g + m = bN B → K4 p (nI (grun (bG B) g s)) (nI g) (hp S) := by
    intro m
    induction m with
    | zero =>
      intro g e
      apply r4
      unfold sm_X0_run_4
      rw [hq_I (k := 1) hk rfl, hB.2.1, if_pos (nI_le (by omega) (by omega)), show g = bN B by omega]
      exact hq
    | succ m ih =>
      intro g e
      apply r4
      unfold sm_X0_run_4
      rw [hq_I (k := 1) hk rfl, hB.2.1, if_neg (nI_ge (by omega) (by omega)), hq_R (k := 2) hk rfl]
      show sa_I (hp S) (p + 1) (nI g) _
      rw [ha_I hk1, hl1]
      refine ⟨vi (by omega) (by omega), ?_⟩
      rw [cl (by omega), hB.2.2.2.2.2 g (by omega), e_act (hg g (by omega)) hw2 (grun_lt hw2 (fun g' h' => hg g' (by omega)) hs)]
      simp only [sr_I]
      rw [nI_1]
      exact ih (g + 1) (by omega)
  exact main (bN B) 0 (by omega)
/-- backwards through gates n-1 .. 0 -/
def gback (γ : Nat → gt) : Nat → Nat → Nat
  | 0, s => s
  | n + 1, s => gback γ n (gact (γ n) s)
theorem gback_lt {w : Nat} {γ : Nat → gt} (hw : w ≤ 6) : ∀ {n : Nat}, (∀ g, g < n → gok w (γ g)) → ∀ {s : Nat}, s < 64 → gback γ n s < 64
  | 0, _, s, hs => hs
  | n + 1, hg, s, hs => show gback γ n (gact (γ n) s) < 64 from gback_lt hw (fun g h => hg g (by omega)) (gact_lt (hg n (by omega)) hw hs)
theorem i_runBack {S : st_S} {p : Nat} {B : bd} (hk : kd p = 0) (hB : Bo S p B) (ok : Bok B) {s : Nat} (hs : s < 64) {Q : aw_R} (hq : Q (some (.int (nI (gback (bG B) (bN B) s)))) (hp S)) : tr_X0_runBack [.ref p, .int (nI s)] (hp S) Q := by
  rw [tq_X0_runBack]
  intro K9 r9
  obtain ⟨hk1, hl1⟩ := bx hk
  obtain ⟨⟨hw1, hw2⟩, hn, hb, hpl, hdr, hg⟩ := ok
  have main : ∀ m t, m ≤ bN B → t < 64 → gback (bG B) m t = gback (bG B) (bN B) s → K9 p (nI t) (nI m - 1) (hp S) := by
    intro m
    induction m with
    | zero =>
      intro t hm ht e
      apply r9
      unfold sm_X0_runBack_9
      rw [if_pos (by decide)]
      rw [show t = gback (bG B) (bN B) s from e]
      exact hq
    | succ m ih =>
      intro t hm ht e
      apply r9
      unfold sm_X0_runBack_9
      rw [nI_pred, if_neg (nI_pos (by omega)), hq_R (k := 2) hk rfl]
      show sa_I (hp S) (p + 1) (nI m) _
      rw [ha_I hk1, hl1]
      refine ⟨vi (by omega) (by omega), ?_⟩
      rw [cl (by omega), hB.2.2.2.2.2 m (by omega), e_act (hg m (by omega)) hw2 ht]
      simp only [sr_I]
      rw [← Int32.sub_eq_add_neg]
      exact ih _ (by omega) (gact_lt (hg m (by omega)) hw2 ht) e
  unfold sm_X0_runBack_0
  rw [hq_I (k := 1) hk rfl, hB.2.1]
  exact main (bN B) s (by omega) hs rfl
/-- a run, were another gate in the place of one -/
def gput (γ : Nat → gt) (i : Nat) (g : gt) : Nat → gt := fun k => if k = i then g else γ k
theorem i_runWith {S : st_S} {p : Nat} {B : bd} (hk : kd p = 0) (hB : Bo S p B) (ok : Bok B) {s i : Nat} {g0 : gt} (hs : s < 64) (hi : i < 16) (hg0 : gok (bW B) g0) {Q : aw_R} (hq : Q (some (.int (nI (grun (gput (bG B) i g0) (bN B) s)))) (hp S)) : tr_X0_runWith [.ref p, .int (nI s), .int (nI i), .int (nI (gpk g0))] (hp S) Q := by
  rw [tq_X0_runWith]
  intro K6 r6
  obtain ⟨hk1, hl1⟩ := bx hk
  obtain ⟨⟨hw1, hw2⟩, hn, hb, hpl, hdr, hg⟩ := ok
  have hg' : ∀ k, k < bN B → gok (bW B) (gput (bG B) i g0 k) := by
    intro k hk'
    unfold gput
    split
    · exact hg0
    · exact hg k hk'
  have main : ∀ m g, g + m = bN B → K6 p (nI i) (nI (gpk g0)) (nI (grun (gput (bG B) i g0) g s)) (nI g) (hp S) := by
    intro m
    induction m with
    | zero =>
      intro g e
      apply r6
      unfold sm_X0_runWith_6
      rw [hq_I (k := 1) hk rfl, hB.2.1, if_pos (nI_le (by omega) (by omega)), show g = bN B by omega]
      exact hq
    | succ m ih =>
      intro g e
      apply r6
      unfold sm_X0_runWith_6
      rw [hq_I (k := 1) hk rfl, hB.2.1, if_neg (nI_ge (by omega) (by omega))]
      have hl := grun_lt hw2 (n := g) (fun g' h' => hg' g' (by omega)) hs
      have ih' := ih (g + 1) (by omega)
      have eg : grun (gput (bG B) i g0) (g + 1) s = gact (gput (bG B) i g0 g) (grun (gput (bG B) i g0) g s) := rfl
      by_cases hgi : g = i
      · rw [if_neg (fun q => q (by rw [hgi])), e_act hg0 hw2 hl]
        simp only [sr_I]
        rw [nI_1]
        rw [eg, show gput (bG B) i g0 g = g0 by simp [gput, hgi]] at ih'
        exact ih'
      · rw [if_pos (fun q => hgi ((nI_eq (by omega) (by omega)).mp q)), hq_R (k := 2) hk rfl]
        show sa_I (hp S) (p + 1) (nI g) _
        rw [ha_I hk1, hl1]
        refine ⟨vi (by omega) (by omega), ?_⟩
        rw [cl (by omega), hB.2.2.2.2.2 g (by omega), e_act (hg g (by omega)) hw2 hl]
        simp only [sr_I]
        rw [nI_1]
        rw [eg, show gput (bG B) i g0 g = bG B g by simp [gput, hgi]] at ih'
        exact ih'
  exact main (bN B) 0 (by omega)
/-- which gates are dead, as a set -/
def gdead (γ : Nat → gt) : Nat → Nat
  | 0 => 0
  | n + 1 => gdead γ n + (γ n).2.2.2.2 * 2 ^ n
theorem gdead_lt {γ : Nat → gt} : ∀ {n : Nat}, (∀ g, g < n → (γ g).2.2.2.2 < 2) → gdead γ n < 2 ^ n
  | 0, _ => by show 0 < 1; decide
  | n + 1, h => by
    have h1 := gdead_lt (n := n) (fun g hg => h g (by omega))
    have h2 := h n (by omega)
    show gdead γ n + (γ n).2.2.2.2 * 2 ^ n < 2 ^ (n + 1)
    rw [Nat.pow_succ]
    rcases (show (γ n).2.2.2.2 = 0 ∨ (γ n).2.2.2.2 = 1 by omega) with q | q <;> rw [q] <;> omega
theorem or_pow {m g : Nat} (hm : m < 2 ^ g) : nI m ||| nI (2 ^ g) = nI (m + 2 ^ g) := by
  have := fa_or_sum (k := g) (a := m) 1 hm
  rw [Nat.mul_one] at this
  rw [show nI m ||| nI (2 ^ g) = nI (2 ^ g) ||| nI m from Int32.or_comm _ _, this, Nat.add_comm]
theorem p2_16 {g : Nat} (h : g ≤ 16) : 2 ^ g ≤ 65536 := Nat.pow_le_pow_right (n := 2) (by omega) h
theorem i_deadOnes {S : st_S} {p : Nat} {B : bd} (hk : kd p = 0) (hB : Bo S p B) (ok : Bok B) {Q : aw_R} (hq : Q (some (.int (nI (gdead (bG B) (bN B))))) (hp S)) : tr_X0_deadOnes [.ref p] (hp S) Q := by
  rw [tq_X0_deadOnes]
  intro K4 r4
  obtain ⟨hk1, hl1⟩ := bx hk
  obtain ⟨⟨hw1, hw2⟩, hn, hb, hpl, hdr, hg⟩ := ok
  have main : ∀ m g, g + m = bN B → K4 p (nI (gdead (bG B) g)) (nI g) (hp S) := by
    intro m
    induction m with
    | zero =>
      intro g e
      apply r4
      unfold sm_X0_deadOnes_4
      rw [hq_I (k := 1) hk rfl, hB.2.1, if_pos (nI_le (by omega) (by omega)), show g = bN B by omega]
      exact hq
    | succ m ih =>
      intro g e
      apply r4
      unfold sm_X0_deadOnes_4
      rw [hq_I (k := 1) hk rfl, hB.2.1, if_neg (nI_ge (by omega) (by omega)), hq_R (k := 2) hk rfl]
      show sa_I (hp S) (p + 1) (nI g) _
      rw [ha_I hk1, hl1]
      refine ⟨vi (by omega) (by omega), ?_⟩
      have ih' := ih (g + 1) (by omega)
      have hd := hg g (by omega)
      obtain ⟨h1, h2, h3, h4, h5, -⟩ := hd
      rw [cl (by omega), hB.2.2.2.2.2 g (by omega), e_isDead]
      simp only [sr_I]
      have f1 := gx_d _ h1 _ (show (bG B g).2.1 < 6 by omega) _ (show (bG B g).2.2.1 < 6 by omega) _ (show (bG B g).2.2.2.1 < 6 by omega) _ h5
      have f2 : gdead (bG B) (g + 1) = gdead (bG B) g + (bG B g).2.2.2.2 * 2 ^ g := rfl
      unfold gpk
      rw [f1, nI_1]
      rcases (show (bG B g).2.2.2.2 = 0 ∨ (bG B g).2.2.2.2 = 1 by omega) with q | q
      · rw [q, if_pos (by decide)]
        rw [f2, q, Nat.zero_mul, Nat.add_zero] at ih'
        exact ih'
      · rw [q, if_neg (by decide), shl1 g (by omega), or_pow (gdead_lt (fun g' h' => (hg g' (by omega)).2.2.2.2.1))]
        rw [f2, q, Nat.one_mul] at ih'
        exact ih'
  exact main (bN B) 0 (by omega)
/-- board p0 (behind) is as board p1 (ahead) -/
def Bc (S S' : st_S) (p0 p1 : Nat) : Prop := S'.1 p0 0 = S.1 p1 0 ∧ S'.1 p0 1 = S.1 p1 1 ∧ S'.1 p0 3 = S.1 p1 3 ∧ S'.1 p0 4 = S.1 p1 4 ∧ S'.1 p0 5 = S.1 p1 5 ∧ ∀ g, g < 16 → S'.2.1 (p0 + 1) g = S.2.1 (p1 + 1) g
theorem Bo.copy {S S' : st_S} {p0 p1 : Nat} {B : bd} (h : Bo S p1 B) (ok : Bok B) (hc : Bc S S' p0 p1) : Bo S' p0 B := by
  obtain ⟨a0, a1, a3, a4, a5, ag⟩ := h
  obtain ⟨c0, c1, c3, c4, c5, cg⟩ := hc
  refine ⟨c0.trans a0, c1.trans a1, c3.trans a3, c4.trans a4, c5.trans a5, fun g hg => ?_⟩
  have := ok.2.1
  exact (cg g (by omega)).trans (ag g hg)
theorem i_copy {S : st_S} {p0 p1 : Nat} (h0 : kd p0 = 0) (h1 : kd p1 = 0) (hne : p0 ≠ p1) {Q : aw_R} (hq : ∀ S', Sx [p0, p0 + 1] S S' → Bc S S' p0 p1 → Q none (hp S')) : tr_X0_becomes [.ref p0, .ref p1] (hp S) Q := by
  rw [tq_X0_becomes]
  unfold sm_X0_becomes_0
  obtain ⟨k0, l0⟩ := bx h0
  obtain ⟨k1, l1⟩ := bx h1
  have n1 : p0 + 1 ≠ p1 := fun e => by rw [e] at k0; omega
  have n2 : p1 + 1 ≠ p0 := fun e => by rw [e] at k1; omega
  have n3 : ¬ p1 = p0 := fun e => hne e.symm
  rw [hq_I (k := 0) h1 rfl, hq_P (k := 0) h0 rfl, hq_I (k := 1) h1 rfl, hq_P (k := 1) h0 rfl, hq_R (k := 2) h1 rfl, hq_R (k := 2) h0 rfl]
  show sc_I _ (p1 + 1) 0 (p0 + 1) 0 16 _
  rw [hc_I k1 k0, l0, l1]
  refine ⟨by decide, by decide, by decide, by decide, by decide, ?_⟩
  rw [hq_I (k := 3) h1 rfl, hq_P (k := 3) h0 rfl, hq_I (k := 4) h1 rfl, hq_P (k := 4) h0 rfl, hq_I (k := 5) h1 rfl, hq_P (k := 5) h0 rfl]
  refine hq _ ?_ ?_
  · have m0 : p0 ∈ [p0, p0 + 1] := by simp
    have m1 : p0 + 1 ∈ [p0, p0 + 1] := by simp
    exact (((((Sx.I m0).tr (Sx.I m0)).tr (Sx.F m1)).tr (Sx.I m0)).tr (Sx.I m0)).tr (Sx.I m0)
  · refine ⟨?_, ?_, ?_, ?_, ?_, ?_⟩
    · simp [sI, sF]
    · simp [sI, sF, n3]
    · simp [sI, sF, n3]
    · simp [sI, sF, n3]
    · simp [sI, sF, n3]
    · intro g hg
      simp [sI, sF]
      rw [pk_cpy_in (by omega) (by show g < 0 + 16; omega)]
      show S.2.1 (p1 + 1) (0 + (g - 0)) = _
      rw [show 0 + (g - 0) = g by omega]
theorem i_becomes {S : st_S} {p0 p1 : Nat} {B : bd} (h0 : kd p0 = 0) (h1 : kd p1 = 0) (hne : p0 ≠ p1) (hB : Bo S p1 B) (ok : Bok B) {Q : aw_R} (hq : ∀ S', Sx [p0, p0 + 1] S S' → Bo S' p0 B → Q none (hp S')) : tr_X0_becomes [.ref p0, .ref p1] (hp S) Q := i_copy h0 h1 hne (fun S' hs hc => hq S' hs (hB.copy ok hc))
theorem i_clear {S : st_S} {p : Nat} {B : bd} (hk : kd p = 0) (hB : Bo S p B) {w : Nat} {Q : aw_R} (hq : ∀ S', Sx [p] S S' → Bo S' p (w, 0, 0, 0, bD B, bG B) → Q none (hp S')) : tr_X0_clear [.ref p, .int (nI w)] (hp S) Q := by
  rw [tq_X0_clear]
  unfold sm_X0_clear_0
  rw [hq_P (k := 0) hk rfl, hq_P (k := 1) hk rfl, hq_P (k := 3) hk rfl, hq_P (k := 4) hk rfl]
  have m0 : p ∈ [p] := by simp
  refine hq _ (((Sx.I m0).tr (Sx.I m0)).tr (Sx.I m0) |>.tr (Sx.I m0)) ?_
  refine ⟨by simp [sI], by simp [sI]; rfl, by simp [sI]; rfl, by simp [sI]; rfl, by simp [sI]; exact hB.2.2.2.2.1, fun g hg => absurd hg (by show ¬ g < 0; omega)⟩
theorem i_add {S : st_S} {p : Nat} {B : bd} (hk : kd p = 0) (hB : Bo S p B) (hn : bN B < 16) {g : gt} {Q : aw_R} (hq : ∀ S', Sx [p, p + 1] S S' → Bo S' p (bW B, bN B + 1, bB B, bP B, bD B, gput (bG B) (bN B) g) → Q none (hp S')) : tr_X0_add [.ref p, .int (nI (gpk g))] (hp S) Q := by
  rw [tq_X0_add]
  unfold sm_X0_add_0
  obtain ⟨k1, l1⟩ := bx hk
  obtain ⟨a0, a1, a3, a4, a5, ag⟩ := hB
  have n1 : ¬ p = p + 1 := by omega
  rw [hq_I (k := 1) hk rfl, a1, if_neg (show ¬ (16 : Int32) ≤ nI (bN B) from nI_ge (a := bN B) (b := 16) hn (by omega)), hq_R (k := 2) hk rfl, hq_I (k := 1) hk rfl, a1]
  show ss_I (hp S) (p + 1) (nI (bN B)) _ _
  rw [hs_I k1, l1]
  refine ⟨vi hn (by omega), ?_⟩
  rw [hq_I (k := 1) hk rfl, hq_P (k := 1) hk rfl]
  have m0 : p ∈ [p, p + 1] := by simp
  have m1 : p + 1 ∈ [p, p + 1] := by simp
  refine hq _ ((Sx.A m1).tr (Sx.I m0)) ⟨?_, ?_, ?_, ?_, ?_, ?_⟩
  · simp [sI, sA, a0]
  · simp [sI, sA, a1, nI_1]
  · simp [sI, sA, a3]
  · simp [sI, sA, a4]
  · simp [sI, sA, a5]
  · intro j hj
    have hj : j < bN B + 1 := hj
    simp only [sI, sA, if_pos]
    rw [cl (by omega)]
    by_cases hjn : j = bN B
    · rw [hjn, pk_us]
      show _ = nI (gpk (if bN B = bN B then g else bG B (bN B)))
      rw [if_pos rfl]
    · rw [pk_un hjn, ag j (by omega)]
      show _ = nI (gpk (if j = bN B then g else bG B j))
      rw [if_neg hjn]
theorem i_stepOn {S : st_S} {p : Nat} {B : bd} (hk : kd p = 0) (hB : Bo S p B) (ok : Bok B) (hp' : bP B < bN B) {Q : aw_R} (hq : ∀ S', Sx [p] S S' → Bo S' p (bW B, bN B, gact (bG B (bP B)) (bB B), bP B + 1, bD B, bG B) → Q none (hp S')) : tr_X0_stepOn [.ref p] (hp S) Q := by
  rw [tq_X0_stepOn]
  unfold sm_X0_stepOn_0
  obtain ⟨k1, l1⟩ := bx hk
  obtain ⟨⟨hw1, hw2⟩, hn, hb, hpl, hdr, hg⟩ := ok
  obtain ⟨a0, a1, a3, a4, a5, ag⟩ := hB
  have := pw_le hw2
  rw [hq_I (k := 4) hk rfl, hq_I (k := 1) hk rfl, a4, a1, if_neg (nI_ge hp' (by omega)), hq_R (k := 2) hk rfl, hq_I (k := 4) hk rfl, a4]
  show sa_I (hp S) (p + 1) (nI (bP B)) _
  rw [ha_I k1, l1]
  refine ⟨vi (by omega) (by omega), ?_⟩
  rw [cl (by omega), ag _ hp', hq_I (k := 3) hk rfl, a3, e_act (hg _ hp') hw2 (by omega)]
  simp only [sr_I]
  rw [hq_P (k := 3) hk rfl, hq_I (k := 4) hk rfl, hq_P (k := 4) hk rfl]
  have m0 : p ∈ [p] := by simp
  refine hq _ ((Sx.I m0).tr (Sx.I m0)) ⟨by simp [sI, a0], by simp [sI, a1], by simp [sI], by simp [sI, a4, nI_1], by simp [sI, a5], fun g hg' => ?_⟩
  exact ag g hg'
theorem i_stepBack {S : st_S} {p : Nat} {B : bd} (hk : kd p = 0) (hB : Bo S p B) (ok : Bok B) (hp' : 0 < bP B) {Q : aw_R} (hq : ∀ S', Sx [p] S S' → Bo S' p (bW B, bN B, gact (bG B (bP B - 1)) (bB B), bP B - 1, bD B, bG B) → Q none (hp S')) : tr_X0_stepBack [.ref p] (hp S) Q := by
  rw [tq_X0_stepBack]
  unfold sm_X0_stepBack_0
  obtain ⟨k1, l1⟩ := bx hk
  obtain ⟨⟨hw1, hw2⟩, hn, hb, hpl, hdr, hg⟩ := ok
  obtain ⟨a0, a1, a3, a4, a5, ag⟩ := hB
  have := pw_le hw2
  have n1 : ¬ p = p + 1 := by omega
  have e1 : nI (bP B) - 1 = nI (bP B - 1) := pk_sub (a := bP B) (b := 1) hp'
  rw [hq_I (k := 4) hk rfl, a4, if_neg (nI_nle hp' (by omega)), hq_I (k := 4) hk rfl, a4, e1, hq_P (k := 4) hk rfl, hq_R (k := 2) hk rfl, hq_I (k := 4) hk rfl, sI_at]
  show sa_I _ (p + 1) (nI (bP B - 1)) _
  rw [ha_I k1, l1]
  refine ⟨vi (by omega) (by omega), ?_⟩
  rw [cl (by omega)]
  show sg_I _ _ _ _ _
  rw [sI_2, ag _ (by omega), hq_I (k := 3) hk rfl, sI_ne S _ (by omega), a3, e_act (hg _ (by omega)) hw2 (by omega)]
  simp only [sr_I]
  rw [hq_P (k := 3) hk rfl]
  have m0 : p ∈ [p] := by simp
  refine hq _ ((Sx.I m0).tr (Sx.I m0)) ⟨by simp [sI, a0], by simp [sI, a1], by simp [sI], by simp [sI], by simp [sI, a5], fun g hg' => ?_⟩
  exact ag g hg'
theorem i_turnOver {S : st_S} {p : Nat} {B : bd} (hk : kd p = 0) (hB : Bo S p B) (ok : Bok B) {w : Nat} (hw : w < bW B) {Q : aw_R} (hq : ∀ S', Sx [p] S S' → Bo S' p (bW B, bN B, bB B ^^^ 2 ^ w, bP B, bD B, bG B) → Q none (hp S')) : tr_X0_turnOver [.ref p, .int (nI w)] (hp S) Q := by
  rw [tq_X0_turnOver]
  unfold sm_X0_turnOver_0
  obtain ⟨⟨hw1, hw2⟩, hn, hb, hpl, hdr, hg⟩ := ok
  obtain ⟨a0, a1, a3, a4, a5, ag⟩ := hB
  have := pw_le hw2
  rw [hq_I (k := 3) hk rfl, a3, gx_fl _ (by omega) _ (by omega), hq_P (k := 3) hk rfl]
  have m0 : p ∈ [p] := by simp
  refine hq _ (Sx.I m0) ⟨by simp [sI, a0], by simp [sI, a1], by simp [sI], by simp [sI, a4], by simp [sI, a5], fun g hg' => ?_⟩
  exact ag g hg'
