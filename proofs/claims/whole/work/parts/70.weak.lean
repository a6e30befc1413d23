/-! gates that lie over wires which they do not have: as kinds are tried -/
def gokw (w : Nat) (g : gt) : Prop := g.1 < 5 ∧ g.2.1 < w ∧ g.2.2.1 < w ∧ g.2.2.2.1 < w ∧ g.2.2.2.2 < 2 ∧ (1 ≤ g.1 → g.2.1 ≠ g.2.2.1) ∧ (3 ≤ g.1 → g.2.1 ≠ g.2.2.2.1 ∧ g.2.2.1 ≠ g.2.2.2.1) ∧ True
theorem gok.w {w : Nat} {g : gt} (h : gok w g) : gokw w g := ⟨h.1, h.2.1, h.2.2.1, h.2.2.2.1, h.2.2.2.2.1, h.2.2.2.2.2.1, h.2.2.2.2.2.2.1, trivial⟩
theorem gactw_lt {w : Nat} {g : gt} (hg : gokw w g) (hw : w ≤ 6) {s : Nat} (hs : s < 64) : gact g s < 64 := by
  obtain ⟨k, a, b, c, d⟩ := g
  obtain ⟨hk, ha, hb, hc, hd, -⟩ := hg
  dsimp only at *
  have h1 := gx_fl2 s hs a (by omega)
  have h2 := gx_ch2 a (by omega) b (by omega) s hs
  unfold gact gchg
  dsimp only
  repeat' split
  all_goals first | exact hs | exact h1 | exact h2
theorem e_actw {w : Nat} {g : gt} (hg : gokw w g) (hw : w ≤ 6) {s : Nat} (hs : s < 64) {h : aw_H} {Q : aw_R} : tr_X2_act [.int (nI (gpk g)), .int (nI s)] h Q = Q (some (.int (nI (gact g s)))) h := by
  obtain ⟨k, a, b, c, d⟩ := g
  obtain ⟨hk, ha, hb, hc, hd, hu, hv, -⟩ := hg
  dsimp only at *
  have f1 := gx_d k hk a (by omega) b (by omega) c (by omega) d hd
  have f2 := gx_k k hk a (by omega) b (by omega) c (by omega) d hd
  have f3 := gx_a k hk a (by omega) b (by omega) c (by omega) d hd
  have f4 := gx_b k hk a (by omega) b (by omega) c (by omega) d hd
  have f5 := gx_c k hk a (by omega) b (by omega) c (by omega) d hd
  rw [propext tq_X2_act]
  unfold sm_X2_act_0
  simp only [e_isDead, e_wireAt, e_kindOf, e_turnIf, e_change, sr_I, gpk]
  rw [f1, f2, f3, f4, f5]
  have b1 := gx_bit s hs b (by omega)
  have b2 := gx_bit s hs c (by omega)
  have g1 := gx_fl s hs a (by omega)
  unfold gact
  dsimp only
  rcases (show d = 0 ∨ d = 1 by omega) with rfl | rfl
  · rw [if_pos (by decide : nI (4096 * 0) = 0), if_pos rfl, if_neg (by decide : ¬ (0 : Nat) = 1)]
    rcases (show k = 0 ∨ k = 1 ∨ k = 2 ∨ k = 3 ∨ k = 4 by omega) with rfl | rfl | rfl | rfl | rfl
    · rw [if_pos p00, if_pos rfl, g1]
    · rw [if_neg q10, if_pos p11, if_neg n10, if_pos rfl]
      unfold tif
      by_cases hb1 : s / 2 ^ b % 2 = 0
      · rw [if_pos (b1.mpr hb1), if_pos hb1]
      · rw [if_neg (fun q => hb1 (b1.mp q)), if_neg hb1, g1]
    · rw [if_neg q20, if_neg q21, if_pos p22, if_neg n20, if_neg n21, if_pos rfl, gx_chg a (by omega) b (by omega) (hu (by omega)) s hs]
    · rw [if_neg q30, if_neg q31, if_neg q32, if_pos p33, if_neg n30, if_neg n31, if_neg n32, if_pos rfl]
      by_cases hc1 : s / 2 ^ c % 2 = 0
      · rw [if_pos (b2.mpr hc1), if_pos hc1]
      · rw [if_neg (fun q => hc1 (b2.mp q)), if_neg hc1]
        unfold tif
        by_cases hb1 : s / 2 ^ b % 2 = 0
        · rw [if_pos (b1.mpr hb1), if_pos hb1]
        · rw [if_neg (fun q => hb1 (b1.mp q)), if_neg hb1, g1]
    · rw [if_neg q40, if_neg q41, if_neg q42, if_neg q43, if_pos p44, if_neg n40, if_neg n41, if_neg n42, if_neg n43]
      by_cases hc1 : s / 2 ^ c % 2 = 0
      · rw [if_pos (b2.mpr hc1), if_pos hc1]
      · rw [if_neg (fun q => hc1 (b2.mp q)), if_neg hc1, gx_chg a (by omega) b (by omega) (hu (by omega)) s hs]
  · rw [if_neg (by decide : ¬ nI (4096 * 1) = 0), if_neg (by decide : ¬ (1 : Int32) = 0), if_pos rfl]
theorem e_doneByw {w : Nat} {k a b c : Nat} (hg : gokw w (k, a, b, c, 0)) (hw : w ≤ 6) {s : Nat} (hs : s < 64) {h : aw_H} {Q : aw_R} : tr_X7_doneBy [.int (nI k), .int (nI a), .int (nI b), .int (nI c), .int (nI s)] h Q = Q (some (.int (nI (gact (k, a, b, c, 0) s)))) h := by
  obtain ⟨hk, ha, hb, hc, hd, hu, hv, -⟩ := hg
  dsimp only at *
  rw [propext tq_X7_doneBy]
  unfold sm_X7_doneBy_0
  simp only [e_has, sr_I]
  rw [has_nat hs (show b < 6 by omega), has_nat hs (show c < 6 by omega)]
  rw [e_changed hs (show a < 6 by omega) (show b < 6 by omega)]
  simp only [sr_I]
  have g1 := gx_fl s hs a (by omega)
  have eb : nI (s / 2 ^ b % 2) = 0 ↔ s / 2 ^ b % 2 = 0 := nI_eq (a := s / 2 ^ b % 2) (b := 0) (by omega) (by omega)
  have ec : nI (s / 2 ^ c % 2) = 0 ↔ s / 2 ^ c % 2 = 0 := nI_eq (a := s / 2 ^ c % 2) (b := 0) (by omega) (by omega)
  rw [g1]
  unfold gact
  dsimp only
  rw [if_neg (by decide : ¬ (0 : Nat) = 1)]
  rcases (show k = 0 ∨ k = 1 ∨ k = 2 ∨ k = 3 ∨ k = 4 by omega) with rfl | rfl | rfl | rfl | rfl
  · rw [if_pos p00, if_pos rfl]
  · rw [if_neg q10, if_pos p11, if_neg n10, if_pos rfl]
    by_cases hb1 : s / 2 ^ b % 2 = 0
    · rw [if_pos (eb.mpr hb1), if_pos hb1]
    · rw [if_neg (fun q => hb1 (eb.mp q)), if_neg hb1]
  · rw [if_neg q20, if_neg q21, if_pos p22, if_neg n20, if_neg n21, if_pos rfl]
  · rw [if_neg q30, if_neg q31, if_neg q32, if_pos p33, if_neg n30, if_neg n31, if_neg n32, if_pos rfl]
    by_cases hb1 : s / 2 ^ b % 2 = 0
    · rw [if_pos (eb.mpr hb1), if_pos hb1]
      split <;> rfl
    · rw [if_neg (fun q => hb1 (eb.mp q)), if_neg hb1]
      by_cases hc1 : s / 2 ^ c % 2 = 0
      · rw [if_pos (ec.mpr hc1), if_pos hc1]
      · rw [if_neg (fun q => hc1 (ec.mp q)), if_neg hc1]
  · rw [if_neg q40, if_neg q41, if_neg q42, if_neg q43, if_neg n40, if_neg n41, if_neg n42, if_neg n43]
    by_cases hc1 : s / 2 ^ c % 2 = 0
    · rw [if_pos (ec.mpr hc1), if_pos hc1]
    · rw [if_neg (fun q => hc1 (ec.mp q)), if_neg hc1]
theorem grunw_lt {w : Nat} {γ : Nat → gt} (hw : w ≤ 6) : ∀ {n : Nat}, (∀ g, g < n → gokw w (γ g)) → ∀ {s : Nat}, s < 64 → grun γ n s < 64
  | 0, _, s, hs => hs
  | n + 1, hg, s, hs => gactw_lt (hg n (by omega)) hw (grunw_lt hw (fun g h => hg g (by omega)) hs)
theorem e_MdoneInw {S : st_S} {x n g s w : Nat} {γ : Nat → gt} (hR : Rg S x n γ) (hg : g < n) (ok : gokw w (γ g)) (hw : w ≤ 6) (hs : s < 64) (hx : x + 5 + 5 * g + 4 < 1617) {Q : aw_R} : tr_X7_doneIn [.ref 58, .int (nI x), .int (nI g), .int (nI s)] (hp S) Q = Q (some (.int (nI (gact (γ g) s)))) (hp S) := by
  obtain ⟨r0, r1, r2, r3, r4⟩ := hR g hg
  rw [propext tq_X7_doneIn]
  unfold sm_X7_doneIn_0
  rw [m_0, show ((nI x + 5) + (5 * nI g)) + 4 = nI (x + 5 + 5 * g + 4) from gixk x g 4, m_wn hx, r4]
  have hd := ok.2.2.2.2.1
  rcases (show (γ g).2.2.2.2 = 0 ∨ (γ g).2.2.2.2 = 1 by omega) with q | q
  · rw [q, if_pos (by decide), m_0, gix, m_wn (by omega), r0, m_0, show nI (x + 5 + 5 * g) + 1 = nI (x + 5 + 5 * g + 1) from nI_1 _, m_wn (by omega), r1, m_0, show nI (x + 5 + 5 * g) + 2 = nI (x + 5 + 5 * g + 2) from nI_add _ 2, m_wn (by omega), r2, m_0, show nI (x + 5 + 5 * g) + 3 = nI (x + 5 + 5 * g + 3) from nI_add _ 3, m_wn (by omega), r3]
    have e : γ g = ((γ g).1, (γ g).2.1, (γ g).2.2.1, (γ g).2.2.2.1, 0) := by rw [← q]
    have ok' : gokw w ((γ g).1, (γ g).2.1, (γ g).2.2.1, (γ g).2.2.2.1, 0) := by rw [← e]; exact ok
    rw [e_doneByw ok' hw hs, ← e]
    simp only [sr_I]
  · rw [q, if_neg (fun z => z rfl)]
    have : gact (γ g) s = s := by unfold gact; rw [if_pos q]
    rw [this]
theorem i_MrunInw {S : st_S} {x n s w : Nat} {γ : Nat → gt} (hR : Rg S x n γ) (hn : S.2.1 59 1 = nI n) (hn16 : n ≤ 16) (ok : ∀ g, g < n → gokw w (γ g)) (hw : w ≤ 6) (hs : s < 64) (hx : x + 85 ≤ 1617) {Q : aw_R} (hq : Q (some (.int (nI (grun γ n s)))) (hp S)) : tr_X7_runIn [.ref 58, .int (nI x), .int (nI s)] (hp S) Q := by
  rw [tq_X7_runIn]
  intro K5 r5
  have main : ∀ m g, g + m = n → K5 58 (nI x) (nI (grun γ g s)) (nI g) (hp S) := by
    intro m
    induction m with
    | zero =>
      intro g e
      apply r5
      unfold sm_X7_runIn_5
      rw [m_0, show (sa_I (hp S) 59 1 _) = _ from m_wn (n := 1) (by omega), hn, if_pos (nI_le (by omega) (by omega)), show g = n by omega]
      exact hq
    | succ m ih =>
      intro g e
      apply r5
      unfold sm_X7_runIn_5
      rw [m_0, show (sa_I (hp S) 59 1 _) = _ from m_wn (n := 1) (by omega), hn, if_neg (nI_ge (by omega) (by omega)), m_v, e_MdoneInw hR (by omega) (ok g (by omega)) hw (grunw_lt hw (fun g' h' => ok g' (by omega)) hs) (by omega)]
      simp only [sr_I]
      rw [nI_1]
      exact ih (g + 1) (by omega)
  exact main n 0 (by omega)
theorem i_runWithw {S : st_S} {p : Nat} {B : bd} (hk : kd p = 0) (hB : Bo S p B) (ok : Bok B) {s i : Nat} {g0 : gt} (hs : s < 64) (hi : i < 16) (hg0 : gokw (bW B) g0) {Q : aw_R} (hq : Q (some (.int (nI (grun (gput (bG B) i g0) (bN B) s)))) (hp S)) : tr_X0_runWith [.ref p, .int (nI s), .int (nI i), .int (nI (gpk g0))] (hp S) Q := by
  rw [tq_X0_runWith]
  intro K6 r6
  obtain ⟨hk1, hl1⟩ := bx hk
  obtain ⟨⟨hw1, hw2⟩, hn, hb, hpl, hdr, hg⟩ := ok
  have hg' : ∀ k, k < bN B → gokw (bW B) (gput (bG B) i g0 k) := by
    intro k hk'
    unfold gput
    split
    · exact hg0
    · exact (hg k hk').w
  have main : ∀ m g, g + m = bN B → K6 p (nI i) (nI (gpk g0)) (nI (grun (gput (bG B) i g0) g s)) (nI g) (hp S) := by
    intro m
    induction m with
    | zero =>
      intro g e
      apply r6
      unfold sm_X0_runWith_6
      rw [hq_I (k := 1) hk rfl, hB.2.1, if_pos (nI_le (by omega) (by omega)), show g = bN B by omega]
      exact hq
    | succ m ih =>
      intro g e
      apply r6
      unfold sm_X0_runWith_6
      rw [hq_I (k := 1) hk rfl, hB.2.1, if_neg (nI_ge (by omega) (by omega))]
      have hl := grunw_lt hw2 (n := g) (fun g' h' => hg' g' (by omega)) hs
      have ih' := ih (g + 1) (by omega)
      have eg : grun (gput (bG B) i g0) (g + 1) s = gact (gput (bG B) i g0 g) (grun (gput (bG B) i g0) g s) := rfl
      by_cases hgi : g = i
      · rw [if_neg (fun q => q (by rw [hgi])), e_actw hg0 hw2 hl]
        simp only [sr_I]
        rw [nI_1]
        rw [eg, show gput (bG B) i g0 g = g0 by simp [gput, hgi]] at ih'
        exact ih'
      · rw [if_pos (fun q => hgi ((nI_eq (by omega) (by omega)).mp q)), hq_R (k := 2) hk rfl]
        show sa_I (hp S) (p + 1) (nI g) _
        rw [ha_I hk1, hl1]
        refine ⟨vi (by omega) (by omega), ?_⟩
        rw [cl (by omega), hB.2.2.2.2.2 g (by omega), e_actw (hg g (by omega)).w hw2 hl]
        simp only [sr_I]
        rw [nI_1]
        rw [eg, show gput (bG B) i g0 g = bG B g by simp [gput, hgi]] at ih'
        exact ih'
  exact main (bN B) 0 (by omega)
