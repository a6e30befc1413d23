/-! move; does, of, goes, image, restore, wires, gate -/
def swp (γ : Nat → gt) (i j : Nat) : Nat → gt := fun k => if k = i then γ j else if k = j then γ i else γ k
def mvB (B : bd) (i j : Nat) : bd := (bW B, bN B, bB B, bP B, bD B, swp (bG B) i j)
theorem mvB_ok {B : bd} (ok : Bok B) {i j : Nat} (hi : i < bN B) (hj : j < bN B) : Bok (mvB B i j) := by
  refine ⟨ok.1, ok.2.1, ok.2.2.1, ok.2.2.2.1, ok.2.2.2.2.1, fun g hg => ?_⟩
  show gok (bW B) (if g = i then bG B j else if g = j then bG B i else bG B g)
  split
  · exact ok.2.2.2.2.2 j hj
  · split
    · exact ok.2.2.2.2.2 i hi
    · exact ok.2.2.2.2.2 g hg
/-- five numbers of row x: gates i and j change places, the first k of them -/
def wsw (f : Nat → Int32) (x i j k : Nat) : Nat → Int32 := fun n => if x + 5 + 5 * i ≤ n ∧ n < x + 5 + 5 * i + k then f (x + 5 + 5 * j + (n - (x + 5 + 5 * i))) else if x + 5 + 5 * j ≤ n ∧ n < x + 5 + 5 * j + k then f (x + 5 + 5 * i + (n - (x + 5 + 5 * j))) else f n
theorem i_swapIn {S : st_S} {x i j : Nat} (hi : i < 16) (hj : j < 16) (hij : i ≠ j) (hx : x + 85 ≤ 1617) {Q : aw_R} (hq : Q none (hp (sF S 59 (wsw (S.2.1 59) x i j 5)))) : tr_X7_swapIn [.ref 58, .int (nI x), .int (nI i), .int (nI j)] (hp S) Q := by
  rw [tq_X7_swapIn]
  intro K3 r3
  have main : ∀ r k, k + r = 5 → K3 58 (nI x) (nI i) (nI j) (nI k) (hp (sF S 59 (wsw (S.2.1 59) x i j k))) := by
    intro r
    induction r with
    | zero =>
      intro k e
      apply r3
      unfold sm_X7_swapIn_3
      rw [if_pos (show (5 : Int32) ≤ nI k from nI_le (a := 5) (by omega) (by omega)), show k = 5 by omega]
      exact hq
    | succ r ih =>
      intro k e
      apply r3
      unfold sm_X7_swapIn_3
      rw [if_neg (show ¬ (5 : Int32) ≤ nI k from nI_ge (b := 5) (by omega) (by omega)), m_0, gixk, m_wn (by omega), m_0, m_0, gixk, m_wn (by omega), m_wsn (by omega), sA_F, sF_F, m_0, m_wsn (by omega), sA_F, sF_F, sF_at, sF_at, nI_1]
      have e1 : upd (upd (wsw (S.2.1 59) x i j k) (x + 5 + 5 * i + k) (wsw (S.2.1 59) x i j k (x + 5 + 5 * j + k))) (x + 5 + 5 * j + k) (wsw (S.2.1 59) x i j k (x + 5 + 5 * i + k)) = wsw (S.2.1 59) x i j (k + 1) := by
        funext n
        by_cases h1 : n = x + 5 + 5 * j + k
        · subst h1
          rw [pk_us]
          unfold wsw
          rw [if_neg (by omega), if_neg (by omega), if_neg (by omega), if_pos (by omega), show x + 5 + 5 * i + (x + 5 + 5 * j + k - (x + 5 + 5 * j)) = x + 5 + 5 * i + k by omega]
        · rw [pk_un h1]
          by_cases h2 : n = x + 5 + 5 * i + k
          · subst h2
            rw [pk_us]
            unfold wsw
            rw [if_neg (by omega), if_neg (by omega), if_pos (by omega), show x + 5 + 5 * j + (x + 5 + 5 * i + k - (x + 5 + 5 * i)) = x + 5 + 5 * j + k by omega]
          · rw [pk_un h2]
            unfold wsw
            by_cases h3 : x + 5 + 5 * i ≤ n ∧ n < x + 5 + 5 * i + k
            · rw [if_pos h3, if_pos (by omega)]
            · rw [if_neg h3, if_neg (show ¬ (x + 5 + 5 * i ≤ n ∧ n < x + 5 + 5 * i + (k + 1)) by omega)]
              by_cases h4 : x + 5 + 5 * j ≤ n ∧ n < x + 5 + 5 * j + k
              · rw [if_pos h4, if_pos (by omega)]
              · rw [if_neg h4, if_neg (by omega)]
      rw [e1]
      exact ih (k + 1) (by omega)
  have h0 : sF S 59 (wsw (S.2.1 59) x i j 0) = S := by
    have : wsw (S.2.1 59) x i j 0 = S.2.1 59 := by
      funext n
      unfold wsw
      rw [if_neg (by omega), if_neg (by omega)]
    rw [this, sF_self]
  have := main 5 0 (by omega)
  rw [h0] at this
  exact this
/-- gates of a row, changed -/
theorem wsw_g {f : Nat → Int32} {x i j n : Nat} {γ : Nat → gt} (hi : i < n) (hj : j < n) (hij : i ≠ j) (h : ∀ g, g < n → f (x + 5 + 5 * g) = nI (γ g).1 ∧ f (x + 5 + 5 * g + 1) = nI (γ g).2.1 ∧ f (x + 5 + 5 * g + 2) = nI (γ g).2.2.1 ∧ f (x + 5 + 5 * g + 3) = nI (γ g).2.2.2.1 ∧ f (x + 5 + 5 * g + 4) = nI (γ g).2.2.2.2) {g : Nat} (hg : g < n) : wsw f x i j 5 (x + 5 + 5 * g) = nI (swp γ i j g).1 ∧ wsw f x i j 5 (x + 5 + 5 * g + 1) = nI (swp γ i j g).2.1 ∧ wsw f x i j 5 (x + 5 + 5 * g + 2) = nI (swp γ i j g).2.2.1 ∧ wsw f x i j 5 (x + 5 + 5 * g + 3) = nI (swp γ i j g).2.2.2.1 ∧ wsw f x i j 5 (x + 5 + 5 * g + 4) = nI (swp γ i j g).2.2.2.2 := by
  have at5 : ∀ k, k < 5 → wsw f x i j 5 (x + 5 + 5 * g + k) = if g = i then f (x + 5 + 5 * j + k) else if g = j then f (x + 5 + 5 * i + k) else f (x + 5 + 5 * g + k) := by
    intro k hk
    unfold wsw
    by_cases h1 : g = i
    · subst h1
      rw [if_pos (by omega), if_pos rfl, show x + 5 + 5 * j + (x + 5 + 5 * g + k - (x + 5 + 5 * g)) = x + 5 + 5 * j + k by omega]
    · rw [if_neg (by omega), if_neg h1]
      by_cases h2 : g = j
      · subst h2
        rw [if_pos (by omega), if_pos rfl, show x + 5 + 5 * i + (x + 5 + 5 * g + k - (x + 5 + 5 * g)) = x + 5 + 5 * i + k by omega]
      · rw [if_neg (by omega), if_neg h2]
  have a0 := at5 0 (by omega)
  have a1 := at5 1 (by omega)
  have a2 := at5 2 (by omega)
  have a3 := at5 3 (by omega)
  have a4 := at5 4 (by omega)
  have a0 : wsw f x i j 5 (x + 5 + 5 * g) = _ := a0
  rw [a0, a1, a2, a3, a4]
  unfold swp
  by_cases h1 : g = i
  · simp only [if_pos h1]
    exact h j hj
  · simp only [if_neg h1]
    by_cases h2 : g = j
    · simp only [if_pos h2]
      exact h i hi
    · simp only [if_neg h2]
      exact h g hg
theorem e_C2g {S : st_S} {B : bd} (hB : Bo S 1 B) (ok : Bok B) {x y : Int32} {Q : aw_R} : tr_X6_areTwoGates [.ref 0, .int x, .int y] (hp S) Q = Q (some (.int (if inb x 0 (nI (bN B) - 1) = 0 then 0 else if inb y 0 (nI (bN B) - 1) = 0 then 0 else if x = y then 0 else 1))) (hp S) := by
  rw [propext tq_X6_areTwoGates]
  unfold sm_X6_areTwoGates_0
  rw [c_v, e_CisGate hB ok]
  simp only [sr_I]
  rw [c_v, e_CisGate hB ok]
  simp only [sr_I]
  split
  · rfl
  · split
    · rfl
    · split <;> rfl
/-- two gates, or not -/
theorem two_g {n : Nat} (hn : n ≤ 16) (x y : Int32) : (∃ i j, i < n ∧ j < n ∧ i ≠ j ∧ x = nI i ∧ y = nI j ∧ inb x 0 (nI n - 1) = 1 ∧ inb y 0 (nI n - 1) = 1 ∧ x ≠ y) ∨ ((if inb x 0 (nI n - 1) = 0 then (0 : Int32) else if inb y 0 (nI n - 1) = 0 then 0 else if x = y then 0 else 1) = 0 ∧ (inb x 0 (nI n - 1) = 0 ∨ inb y 0 (nI n - 1) = 0 ∨ x = y)) := by
  rcases inb_nat (x := x) (n := n) (by omega) with ⟨i, hi, hx, ex⟩ | ⟨hi, ex⟩
  · rcases inb_nat (x := y) (n := n) (by omega) with ⟨j, hj, hy, ey⟩ | ⟨hj, ey⟩
    · by_cases hxy : x = y
      · right
        rw [ex, ey, if_neg (by decide), if_neg (by decide), if_pos hxy]
        exact ⟨rfl, Or.inr (Or.inr hxy)⟩
      · exact Or.inl ⟨i, j, hi, hj, fun e => hxy (by rw [hx, hy, e]), hx, hy, ex, ey, hxy⟩
    · right
      rw [ex, ey, if_neg (by decide), if_pos rfl]
      exact ⟨rfl, Or.inr (Or.inl rfl)⟩
  · right
    rw [ex, if_pos rfl]
    exact ⟨rfl, Or.inl rfl⟩
theorem op_move {σ : sg} (wf : Wf σ) (x y : Int32) : Op tr_X6_move tr_X7_move σ [.int x, .int y] := by
  have hn := wf.1.2.1
  rcases two_g hn x y with ⟨i, j, hi, hj, hij, hx, hy, ex, ey, hxy⟩ | ⟨e, he⟩
  · refine ⟨1, nb (kp σ) (mvB σ.1 i j), fun S Q h hq => ?_, fun S Q h hq => ?_⟩
    · rw [tq_X6_move]; unfold sm_X6_move_0
      rw [c_v, e_C2g h.1.2 h.1.1, ex, ey, if_neg (by decide), if_neg (by decide), if_neg hxy]
      simp only [sr_I]
      rw [if_pos (by decide), c_1, c_0, p_v]
      refine i_Ckeep h (fun S2 f2 hc2 => ?_)
      simp only [sr_V]
      have ai : S2.2.1 2 i = nI (gpk (bG σ.1 i)) := hc2.1.2.2.2.2.2.2 i hi
      have aj : S2.2.1 2 j = nI (gpk (bG σ.1 j)) := hc2.1.2.2.2.2.2.2 j hj
      rw [c_0, b_2, hx, g_r (by omega), ai, c_0, b_2, c_0, b_2, hy, g_r (by omega), aj, g_s (by omega), c_0, b_2, g_s (by omega)]
      refine hq _ (f2.tr (((Sx.A (ps := [2]) (by simp)).tr (Sx.A (by simp))).fc (by simp))) (hc2.now ((Sx.A (by simp)).tr (Sx.A (by simp))) (mvB_ok wf.1 hi hj) ?_)
      have h3 := (hc2.1.2.put (j := i) (g := bG σ.1 j)).put (j := j) (g := bG σ.1 i)
      obtain ⟨a0, a1, a3, a4, a5, ag⟩ := h3
      refine ⟨a0, a1, a3, a4, a5, fun k hk => ?_⟩
      rw [ag k hk]
      show nI (gpk (if k = j then bG σ.1 i else if k = i then bG σ.1 j else bG σ.1 k)) = nI (gpk (if k = i then bG σ.1 j else if k = j then bG σ.1 i else bG σ.1 k))
      by_cases h1 : k = j
      · rw [if_pos h1, if_neg (by omega), if_pos h1]
      · rw [if_neg h1]
        by_cases h2 : k = i
        · rw [if_pos h2, if_pos h2]
        · rw [if_neg h2, if_neg h2, if_neg h1]
    · rw [tq_X7_move]; unfold sm_X7_move_0
      rw [m_v, e_MisGate h.1, ex]
      simp only [sr_I]
      rw [if_neg (by decide), m_v, e_MisGate h.1, ey]
      simp only [sr_I]
      rw [if_neg (by decide), if_pos hxy, m_v]
      refine i_Mkeep h wf (fun S2 f2 hc2 => ?_)
      simp only [sr_V]
      rw [m_v, hx, hy]
      refine i_swapIn (x := 0) (by omega) (by omega) hij (by omega) ?_
      simp only [sr_V]
      refine hq _ (f2.tr (Fm.F (by omega))) (hc2.row (kp_wf wf) (B := mvB σ.1 i j) (fun k hk => ?_) ?_)
      · unfold wsw
        rw [if_neg (by omega), if_neg (by omega)]
      · obtain ⟨a0, a1, a2, a3, a4, ag⟩ := hc2.1
        have lo : ∀ k, k < 5 → wsw (S2.2.1 59) 0 i j 5 k = S2.2.1 59 k := by
          intro k hk
          unfold wsw
          rw [if_neg (by omega), if_neg (by omega)]
        refine ⟨by rw [lo 0 (by omega)]; exact a0, by rw [lo 1 (by omega)]; exact a1, by rw [lo 2 (by omega)]; exact a2, by rw [lo 3 (by omega)]; exact a3, by rw [lo 4 (by omega)]; exact a4, fun g hg => ?_⟩
        exact wsw_g (n := bN σ.1) hi hj hij ag hg
  · refine Op.same (-1) (fun S Q h hq => ?_) (fun S Q h hq => ?_)
    · rw [tq_X6_move]; unfold sm_X6_move_0
      rw [c_v, e_C2g h.1.2 h.1.1, e]
      simp only [sr_I]
      rw [if_neg (by decide)]
      exact hq
    · rw [tq_X7_move]; unfold sm_X7_move_0
      rw [m_v, e_MisGate h.1]
      simp only [sr_I]
      by_cases h1 : inb x 0 (nI (bN σ.1) - 1) = 0
      · rw [if_pos h1]
        exact hq
      · rw [if_neg h1, m_v, e_MisGate h.1]
        simp only [sr_I]
        by_cases h2 : inb y 0 (nI (bN σ.1) - 1) = 0
        · rw [if_pos h2]
          exact hq
        · rw [if_neg h2, if_neg (fun q => q (he.resolve_left h1 |>.resolve_left h2))]
          exact hq
theorem op_does {σ : sg} (wf : Wf σ) (x y : Int32) : Op tr_X6_does tr_X7_does σ [.int x, .int y] := by
  have hn := wf.1.2.1
  have hw := wf.1.1.2
  have h64 := pw_le hw
  rcases inb_nat (x := x) (n := bN σ.1) (by omega) with ⟨j, hj, hx, e⟩ | ⟨hj, e⟩
  · rcases inb_nat (x := y) (n := 2 ^ bW σ.1) (by omega) with ⟨s, hs, hy, ey⟩ | ⟨hs, ey⟩
    · refine Op.same (nI (gact (bG σ.1 j) s)) (fun S Q h hq => ?_) (fun S Q h hq => ?_)
      · rw [tq_X6_does]; unfold sm_X6_does_0
        rw [c_v, e_CisGate h.1.2 h.1.1, e]
        simp only [sr_I]
        rw [if_neg (by decide), c_v, e_CisState h.1.2 h.1.1, ey]
        simp only [sr_I]
        rw [if_pos (by decide), c_0, b_2, hx, hy, g_r (by omega), show S.2.1 2 j = nI (gpk (bG σ.1 j)) from h.1.2.2.2.2.2.2 j hj, e_act (wf.1.2.2.2.2.2 j hj) hw (by omega)]
        exact hq
      · rw [tq_X7_does]; unfold sm_X7_does_0
        rw [m_v, e_MisGate h.1, e]
        simp only [sr_I]
        rw [if_neg (by decide), m_v, e_MisState h.1 wf.1, ey]
        simp only [sr_I]
        rw [if_neg (by decide), m_v, hx, hy]
        rw [show (tr_X7_doneIn [.ref 58, .int 0, .int (nI j), .int (nI s)] (hp S)) = _ from funext fun Q => e_MdoneIn (x := 0) h.1.g hj (wf.1.2.2.2.2.2 j hj) hw (by omega) (by omega)]
        exact hq
    · refine Op.same (-1) (fun S Q h hq => ?_) (fun S Q h hq => ?_)
      · rw [tq_X6_does]; unfold sm_X6_does_0
        rw [c_v, e_CisGate h.1.2 h.1.1, e]
        simp only [sr_I]
        rw [if_neg (by decide), c_v, e_CisState h.1.2 h.1.1, ey]
        simp only [sr_I]
        rw [if_neg (by decide)]
        exact hq
      · rw [tq_X7_does]; unfold sm_X7_does_0
        rw [m_v, e_MisGate h.1, e]
        simp only [sr_I]
        rw [if_neg (by decide), m_v, e_MisState h.1 wf.1, ey]
        simp only [sr_I]
        rw [if_pos (by decide)]
        exact hq
  · refine Op.same (-1) (fun S Q h hq => ?_) (fun S Q h hq => ?_)
    · rw [tq_X6_does]; unfold sm_X6_does_0
      rw [c_v, e_CisGate h.1.2 h.1.1, e]
      simp only [sr_I]
      rw [if_pos (by decide)]
      exact hq
    · rw [tq_X7_does]; unfold sm_X7_does_0
      rw [m_v, e_MisGate h.1, e]
      simp only [sr_I]
      rw [if_pos (by decide)]
      exact hq
