/-! gate, of, type: both sides -/
theorem inb_4 (x : Int32) : (∃ k, k < 5 ∧ x = nI k ∧ inb x 0 4 = 1) ∨ ((x < 0 ∨ 5 ≤ x) ∧ inb x 0 4 = 0) := by
  rcases inb_nat (x := x) (n := 5) (by omega) with ⟨k, hk, hx, e⟩ | ⟨hk, e⟩
  · exact Or.inl ⟨k, hk, hx, e⟩
  · refine Or.inr ⟨?_, e⟩
    rcases pk_ix x (n := 5) (by omega) with h1 | h1 | ⟨j, hj, h1⟩
    · exact Or.inl h1
    · exact Or.inr h1
    · exact absurd h1 (hk j hj)
theorem inb_w (x : Int32) {n : Nat} (hn : n < 2 ^ 31) : (∃ k, k < n ∧ x = nI k ∧ inb x 0 (nI n - 1) = 1) ∨ ((x < 0 ∨ nI n ≤ x) ∧ inb x 0 (nI n - 1) = 0) := by
  rcases inb_nat (x := x) (n := n) hn with ⟨k, hk, hx, e⟩ | ⟨hk, e⟩
  · exact Or.inl ⟨k, hk, hx, e⟩
  · refine Or.inr ⟨?_, e⟩
    rcases pk_ix x (n := n) hn with h1 | h1 | ⟨j, hj, h1⟩
    · exact Or.inl h1
    · exact Or.inr h1
    · exact absurd h1 (hk j hj)
theorem mayLie_bad {x a b c w : Int32} (hb : (x < 0 ∨ 5 ≤ x) ∨ (a < 0 ∨ w ≤ a) ∨ (b < 0 ∨ w ≤ b) ∨ (c < 0 ∨ w ≤ c)) {h : aw_H} {Q : aw_R} (hq : Q (some (.int 0)) h) : tr_X2_mayLie [.int x, .int a, .int b, .int c, .int w] h Q := by
  rw [tq_X2_mayLie]
  unfold sm_X2_mayLie_0
  split
  · exact hq
  rename_i c1
  split
  · exact hq
  rename_i c2
  split
  · exact hq
  rename_i c3
  split
  · exact hq
  rename_i c4
  split
  · exact hq
  rename_i c5
  split
  · exact hq
  rename_i c6
  split
  · exact hq
  rename_i c7
  split
  · rename_i c8
    exfalso
    rcases hb with (q | q) | (q | q) | (q | q) | (q | q)
    · exact c1 q
    · exact c2 q
    · exact c3 q
    · exact c6 q
    · exact c4 q
    · exact c7 q
    · exact c5 q
    · have := Int32.le_iff_toInt_le.mp q
      have := Int32.lt_iff_toInt_lt.mp c8
      omega
  · exact hq
theorem gate_refuse {σ : sg} {x a b c : Int32} (hb : ((x < 0 ∨ 5 ≤ x) ∧ inb x 0 4 = 0) ∨ ((a < 0 ∨ nI (bW σ.1) ≤ a) ∧ inb a 0 (nI (bW σ.1) - 1) = 0) ∨ ((b < 0 ∨ nI (bW σ.1) ≤ b) ∧ inb b 0 (nI (bW σ.1) - 1) = 0) ∨ ((c < 0 ∨ nI (bW σ.1) ≤ c) ∧ inb c 0 (nI (bW σ.1) - 1) = 0)) : Op tr_X6_gate tr_X7_gate σ [.int x, .int a, .int b, .int c] := by
  refine Op.same (-1) (fun S Q h hq => ?_) (fun S Q h hq => ?_)
  · rw [tq_X6_gate]; unfold sm_X6_gate_0
    rw [c_0, hq_I (k := 0) k1 rfl, h.1.2.1]
    refine mayLie_bad (by rcases hb with q | q | q | q; exact Or.inl q.1; exact Or.inr (Or.inl q.1); exact Or.inr (Or.inr (Or.inl q.1)); exact Or.inr (Or.inr (Or.inr q.1))) ?_
    simp only [sr_I]
    rw [if_neg (by decide)]
    exact hq
  · rw [tq_X7_gate]; unfold sm_X7_gate_0
    rw [e_in]
    simp only [sr_I]
    split
    · exact hq
    rename_i c1
    rw [m_v, e_MisWire h.1]
    simp only [sr_I]
    split
    · exact hq
    rename_i c2
    rw [m_v, e_MisWire h.1]
    simp only [sr_I]
    split
    · exact hq
    rename_i c3
    rw [m_v, e_MisWire h.1]
    simp only [sr_I]
    split
    · rename_i c4
      exfalso
      rcases hb with q | q | q | q
      · exact c1 q.2
      · exact c2 q.2
      · exact c3 q.2
      · exact c4 q.2
    · exact hq
theorem op_gate {σ : sg} (wf : Wf σ) (x a b c : Int32) : Op tr_X6_gate tr_X7_gate σ [.int x, .int a, .int b, .int c] := by
  have hw := wf.1.1
  have hn := wf.1.2.1
  rcases inb_4 x with ⟨k, hk, hx, ex⟩ | hx
  · rcases inb_w a (n := bW σ.1) (by omega) with ⟨a', ha, hax, ea⟩ | ha
    · rcases inb_w b (n := bW σ.1) (by omega) with ⟨b', hb, hbx, eb⟩ | hb
      · rcases inb_w c (n := bW σ.1) (by omega) with ⟨c', hc, hcx, ec⟩ | hc
        · have eb0 : nI b' = 0 ↔ b' = 0 := nI_eq (b := 0) (by omega) (by omega)
          have ec0 : nI c' = 0 ↔ c' = 0 := nI_eq (b := 0) (by omega) (by omega)
          have g2 : 2 ≤ nI (gwo k) ↔ ¬ k < 1 := (by decide +kernel : ∀ k, k < 5 → (2 ≤ nI (gwo k) ↔ ¬ k < 1)) k hk
          have g3 : 3 ≤ nI (gwo k) ↔ ¬ k < 3 := (by decide +kernel : ∀ k, k < 5 → (3 ≤ nI (gwo k) ↔ ¬ k < 3)) k hk
          have mod : ∀ S Q, MI S σ → (glie k a' b' c' = true → sm_X7_gate_77 Q 58 (nI k) (nI a') (nI b') (nI c') (hp S)) → (glie k a' b' c' = false → Q (some (.int (-1))) (hp S)) → tr_X7_gate [.ref 58, .int x, .int a, .int b, .int c] (hp S) Q := by
            intro S Q h q1 q2
            rw [tq_X7_gate]; unfold sm_X7_gate_0
            rw [e_in, ex]
            simp only [sr_I]
            rw [if_neg (by decide), m_v, e_MisWire h.1, ea]
            simp only [sr_I]
            rw [if_neg (by decide), m_v, e_MisWire h.1, eb]
            simp only [sr_I]
            rw [if_neg (by decide), m_v, e_MisWire h.1, ec]
            simp only [sr_I]
            rw [if_pos (by decide), e_MwiresOf, hx, gwo_m k hk]
            simp only [sr_I]
            rw [hax, hbx, hcx, e_MareUnlike hk (by omega) (by omega) (by omega)]
            simp only [sr_I, g2, g3, eb0, ec0]
            unfold glie at q1 q2
            cases hu : gun k a' b' c'
            · rw [hu] at q2
              rw [if_pos (by decide)]
              exact q2 rfl
            · rw [hu] at q1 q2
              rw [if_neg (by decide)]
              by_cases h3 : k < 3
              · rw [if_neg (fun q => q h3)]
                by_cases hc0 : c' = 0
                · rw [if_neg (fun q => q hc0)]
                  by_cases h1 : k < 1
                  · rw [if_neg (fun q => q h1)]
                    by_cases hb0 : b' = 0
                    · rw [if_pos hb0]
                      exact q1 (by simp [hb0, hc0])
                    · rw [if_neg hb0]
                      exact q2 (by simp [h1, hb0])
                  · rw [if_pos h1]
                    exact q1 (by simp [h1, hc0])
                · rw [if_pos hc0]
                  exact q2 (by simp [h3, hc0])
              · have h1 : ¬ k < 1 := by omega
                rw [if_pos h3, if_pos h1]
                exact q1 (by simp [h1, h3])
          cases hl : glie k a' b' c'
          · refine Op.same (-1) (fun S Q h hq => ?_) (fun S Q h hq => mod S Q h (fun q => by rw [hl] at q; cases q) (fun _ => hq))
            rw [tq_X6_gate]; unfold sm_X6_gate_0
            rw [c_0, hq_I (k := 0) k1 rfl, h.1.2.1, hx, hax, hbx, hcx, e_mayLie hk ha hb hc hw.2, hl]
            simp only [sr_I]
            rw [if_neg (by decide)]
            exact hq
          · have hg := glie_ok hk ha hb hc hl
            by_cases h16 : bN σ.1 < 16
            · refine ⟨nI (bN σ.1), (adB σ.1 (k, a', b', c', 0), [], σ.2.2), fun S Q h hq => ?_, fun S Q h hq => mod S Q h (fun _ => ?_) (fun q => by rw [hl] at q; cases q)⟩
              · rw [tq_X6_gate]; unfold sm_X6_gate_0
                rw [c_0, hq_I (k := 0) k1 rfl, h.1.2.1, hx, hax, hbx, hcx, e_mayLie hk ha hb hc hw.2, hl]
                simp only [sr_I]
                rw [if_pos (by decide), c_0, hq_I (k := 1) k1 rfl, h.1.2.2.1, if_pos (show nI (bN σ.1) < (16 : Int32) from nI_lt (b := 16) h16 (by omega)), c_0, e_pack, gx_pack k hk a' (by omega) b' (by omega) c' (by omega)]
                simp only [sr_I]
                rw [b_v]
                refine i_add (g := (k, a', b', c', 0)) k1 h.1.2 h16 (fun S2 s2 hB2 => ?_)
                simp only [sr_V]
                rw [c_1, p_v, e_forget k3]
                simp only [sr_V]
                have hP2 : Po S2 3 σ.2.1 := h.2.1.kept (fun q q1 q2 => s2 q (by simp; omega))
                have hB3 : Bo (sI S2 3 2 0) 1 (adB σ.1 (k, a', b', c', 0)) := hB2.kept (Sa.I (by omega)) (Sa.I (by omega))
                rw [c_0, hq_I (k := 1) k1 rfl, hB3.2.1, show nI (bN (adB σ.1 (k, a', b', c', 0))) - 1 = nI (bN σ.1) from nI_pred _]
                exact hq _ ((s2.fc (by simp)).tr ((Sx.I (ps := [3]) (by simp)).fc (by simp))) (h.upd (fun q q1 q2 => (s2 q (by simp; omega)).tr (Sa.I (by omega))) ⟨adB_ok wf.1 hg h16, hB3⟩ hP2.forget)
              · unfold sm_X7_gate_77
                rw [m_0, show (sa_I (hp S) 59 1 _) = _ from m_wn (n := 1) (by omega), show S.2.1 59 1 = nI (bN σ.1) from h.1.2.1, if_pos (show ¬ nI (bN σ.1) = 16 from fun q => by have := (nI_eq (b := 16) (by omega) (by omega)).mp q; omega), m_v]
                refine i_Mput (g := (k, a', b', c', 0)) h wf h16 (fun S' f' h' => ?_)
                simp only [sr_I]
                exact hq S' f' h'
            · refine Op.same (-3) (fun S Q h hq => ?_) (fun S Q h hq => mod S Q h (fun _ => ?_) (fun q => by rw [hl] at q; cases q))
              · rw [tq_X6_gate]; unfold sm_X6_gate_0
                rw [c_0, hq_I (k := 0) k1 rfl, h.1.2.1, hx, hax, hbx, hcx, e_mayLie hk ha hb hc hw.2, hl]
                simp only [sr_I]
                rw [if_pos (by decide), c_0, hq_I (k := 1) k1 rfl, h.1.2.2.1, if_neg (show ¬ nI (bN σ.1) < (16 : Int32) from nI_nlt (b := 16) (by omega) (by omega))]
                exact hq
              · unfold sm_X7_gate_77
                rw [m_0, show (sa_I (hp S) 59 1 _) = _ from m_wn (n := 1) (by omega), show S.2.1 59 1 = nI (bN σ.1) from h.1.2.1, if_neg (fun q => q (by rw [show bN σ.1 = 16 by omega]; rfl))]
                exact hq
        · exact gate_refuse (Or.inr (Or.inr (Or.inr hc)))
      · exact gate_refuse (Or.inr (Or.inr (Or.inl hb)))
    · exact gate_refuse (Or.inr (Or.inl ha))
  · exact gate_refuse (Or.inl hx)
theorem op_of {σ : sg} (wf : Wf σ) (x y : Int32) : Op tr_X6_of tr_X7_of σ [.int x, .int y] := by
  have hn := wf.1.2.1
  have hw := wf.1.1.2
  rcases inb_nat (x := x) (n := bN σ.1) (by omega) with ⟨j, hj, hx, e⟩ | ⟨hj, e⟩
  · have hg := wf.1.2.2.2.2.2 j hj
    have ha : (bG σ.1 j).2.1 < 6 := by have := hg.2.1; omega
    have hb : (bG σ.1 j).2.2.1 < 6 := by have := hg.2.2.1; omega
    have hc : (bG σ.1 j).2.2.2.1 < 6 := by have := hg.2.2.2.1; omega
    rcases inb_4 y with ⟨k, hk, hy, ey⟩ | ⟨hy, ey⟩
    · have fc := gx_k _ hg.1 _ ha _ hb _ hc _ hg.2.2.2.2.1
      have fa := gx_a _ hg.1 _ ha _ hb _ hc _ hg.2.2.2.2.1
      have fb := gx_b _ hg.1 _ ha _ hb _ hc _ hg.2.2.2.2.1
      have fcc := gx_c _ hg.1 _ ha _ hb _ hc _ hg.2.2.2.2.1
      have fd := gisd hw hg
      have cls : ∀ S Q v, CI S σ → ((k = 0 ∧ v = nI (bG σ.1 j).1) ∨ (k = 1 ∧ v = nI (bG σ.1 j).2.1) ∨ (k = 2 ∧ v = nI (bG σ.1 j).2.2.1) ∨ (k = 3 ∧ v = nI (bG σ.1 j).2.2.2.1) ∨ (k = 4 ∧ v = nI (bG σ.1 j).2.2.2.2)) → Q (some (.int v)) (hp S) → tr_X6_of [.ref 0, .int x, .int y] (hp S) Q := by
        intro S Q v h hv hq
        rw [tq_X6_of]; unfold sm_X6_of_0
        rw [c_v, e_CisGate h.1.2 h.1.1, e]
        simp only [sr_I]
        rw [if_neg (by decide), hy, if_neg (nI_pos (by omega)), if_pos (show nI k ≤ (4 : Int32) from nI_le (b := 4) (by omega) (by omega)), c_0, b_2, hx, g_r (by omega), show S.2.1 2 j = nI (gpk (bG σ.1 j)) from h.1.2.2.2.2.2.2 j hj]
        rcases hv with ⟨rfl, rfl⟩ | ⟨rfl, rfl⟩ | ⟨rfl, rfl⟩ | ⟨rfl, rfl⟩ | ⟨rfl, rfl⟩
        · rw [if_neg (by decide), e_kindOf, show nI (gpk (bG σ.1 j)) &&& 7 = _ from fc]
          exact hq
        · rw [if_pos (by decide), if_pos (by decide), e_wireAt, show (nI (gpk (bG σ.1 j)) >>> ((3 + 3 * (nI 1 - 1)) &&& 31)) &&& 7 = _ from fa]
          exact hq
        · rw [if_pos (by decide), if_pos (by decide), e_wireAt, show (nI (gpk (bG σ.1 j)) >>> ((3 + 3 * (nI 2 - 1)) &&& 31)) &&& 7 = _ from fb]
          exact hq
        · rw [if_pos (by decide), if_pos (by decide), e_wireAt, show (nI (gpk (bG σ.1 j)) >>> ((3 + 3 * (nI 3 - 1)) &&& 31)) &&& 7 = _ from fcc]
          exact hq
        · rw [if_pos (by decide), if_neg (by decide), e_isDead, fd]
          simp only [sr_I]
          have := hg.2.2.2.2.1
          rcases (show (bG σ.1 j).2.2.2.2 = 0 ∨ (bG σ.1 j).2.2.2.2 = 1 by omega) with q | q
          · rw [q] at hq ⊢
            rw [if_pos (by decide)]
            exact hq
          · rw [q] at hq ⊢
            rw [if_neg (by decide)]
            exact hq
      have mdl : ∀ S Q v, MI S σ → S.2.1 59 (0 + 5 + 5 * j + k) = v → Q (some (.int v)) (hp S) → tr_X7_of [.ref 58, .int x, .int y] (hp S) Q := by
        intro S Q v h hv hq
        rw [tq_X7_of]; unfold sm_X7_of_0
        rw [m_v, e_MisGate h.1, e]
        simp only [sr_I]
        rw [if_neg (by decide), e_in, ey]
        simp only [sr_I]
        rw [if_neg (by decide), m_0, hx, hy, show ((5 : Int32) + 5 * nI j) + nI k = nI (0 + 5 + 5 * j + k) from gixk 0 j k, m_wn (by omega), hv]
        exact hq
      rcases (show k = 0 ∨ k = 1 ∨ k = 2 ∨ k = 3 ∨ k = 4 by omega) with rfl | rfl | rfl | rfl | rfl
      · exact Op.same (nI (bG σ.1 j).1) (fun S Q h hq => cls S Q _ h (by simp) hq) (fun S Q h hq => mdl S Q _ h (h.1.2.2.2.2.2 j hj).1 hq)
      · exact Op.same (nI (bG σ.1 j).2.1) (fun S Q h hq => cls S Q _ h (by simp) hq) (fun S Q h hq => mdl S Q _ h (h.1.2.2.2.2.2 j hj).2.1 hq)
      · exact Op.same (nI (bG σ.1 j).2.2.1) (fun S Q h hq => cls S Q _ h (by simp) hq) (fun S Q h hq => mdl S Q _ h (h.1.2.2.2.2.2 j hj).2.2.1 hq)
      · exact Op.same (nI (bG σ.1 j).2.2.2.1) (fun S Q h hq => cls S Q _ h (by simp) hq) (fun S Q h hq => mdl S Q _ h (h.1.2.2.2.2.2 j hj).2.2.2.1 hq)
      · exact Op.same (nI (bG σ.1 j).2.2.2.2) (fun S Q h hq => cls S Q _ h (by simp) hq) (fun S Q h hq => mdl S Q _ h (h.1.2.2.2.2.2 j hj).2.2.2.2 hq)
    · refine Op.same (-1) (fun S Q h hq => ?_) (fun S Q h hq => ?_)
      · rw [tq_X6_of]; unfold sm_X6_of_0
        rw [c_v, e_CisGate h.1.2 h.1.1, e]
        simp only [sr_I]
        rw [if_neg (by decide)]
        rcases hy with hy | hy
        · rw [if_pos hy]; exact hq
        · have : ¬ y ≤ 4 := fun q => by
            have h1 : (5 : Int) ≤ y.toInt := Int32.le_iff_toInt_le.mp hy
            have h2 : y.toInt ≤ (4 : Int) := Int32.le_iff_toInt_le.mp q
            omega
          rw [if_neg this]
          split <;> exact hq
      · rw [tq_X7_of]; unfold sm_X7_of_0
        rw [m_v, e_MisGate h.1, e]
        simp only [sr_I]
        rw [if_neg (by decide), e_in, ey]
        simp only [sr_I]
        rw [if_pos (by decide)]
        exact hq
  · refine Op.same (-1) (fun S Q h hq => ?_) (fun S Q h hq => ?_)
    · rw [tq_X6_of]; unfold sm_X6_of_0
      rw [c_v, e_CisGate h.1.2 h.1.1, e]
      simp only [sr_I]
      rw [if_pos (by decide)]
      exact hq
    · rw [tq_X7_of]; unfold sm_X7_of_0
      rw [m_v, e_MisGate h.1, e]
      simp only [sr_I]
      rw [if_pos (by decide)]
      exact hq
