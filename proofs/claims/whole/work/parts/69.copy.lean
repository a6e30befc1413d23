/-! copy -/
theorem put_d {f g : Nat → Int64} {a n m : Nat} (h : m < n) : updL (fb_put f (fun k => g (k + (m + 1))) (a + (m + 1)) (n - (m + 1))) (a + m) (g m) = fb_put f (fun k => g (k + m)) (a + m) (n - m) := by
  funext k
  unfold updL
  by_cases hk : k = a + m
  · rw [if_pos hk, hk, fb_put_in (by omega) (by omega), show a + m - (a + m) + m = m by omega]
  · rw [if_neg hk]
    by_cases h2 : a + (m + 1) ≤ k ∧ k < a + n
    · rw [fb_put_in h2.1 (by omega), fb_put_in (by omega) (by omega), show k - (a + (m + 1)) + (m + 1) = k - (a + m) + m by omega]
    · rw [fb_put_out (by omega), fb_put_out (by omega)]
/-- sheet k1 from i on laid over sheet k2 from j on -/
theorem shp_get {σ : sg} {k i : Nat} {a : shs} : (shp σ k a).2.2.2.2 i = if i = k then a else σ.2.2.2.2 i := rfl
theorem i_copyM {S : st_S} {σ : sg} (h : MI S σ) (wf : Wf σ) {k1 k2 la s1 s2 i j n : Nat} {f1 f2 : Nat → Int64} (hk1 : k1 < 4) (hk2 : k2 < 4) (e1 : σ.2.2.2.2 k1 = some (la, s1, f1)) (e2 : σ.2.2.2.2 k2 = some (la, s2, f2)) (hi : i + n ≤ s1) (hj : j + n ≤ s2) {K118 : Nat → Int32 → Int32 → Int32 → Int32 → Int32 → Int32 → Int32 → aw_H → Prop} {Q : aw_R}
    (r118 : ∀ (p0 : Nat) (x1 : Int32) (x2 : Int32) (x3 : Int32) (x4 : Int32) (x5 : Int32) (x6 : Int32) (x7 : Int32) (h : aw_H), sm_X7_copy_118 K118 Q p0 x1 x2 x3 x4 x5 x6 x7 h → K118 p0 x1 x2 x3 x4 x5 x6 x7 h)
    (hq : ∀ S', Fm S S' → MI S' (shp σ k2 (some (la, s2, fb_put f2 (fun t => f1 (i + t)) j n))) → Q (some (.int (nI n))) (hp S')) :
    (¬ (k1 = k2 ∧ i < j) → K118 58 (nI k1) (nI i) (nI k2) (nI j) (nI n) 0 0 (hp S)) ∧ ((k1 = k2 ∧ i < j) → K118 58 (nI k1) (nI i) (nI k2) (nI j) (nI n) 1 0 (hp S)) := by
  have w1 := wf.2.2.2.2.2 k1 hk1 la s1 f1 e1
  have w2 := wf.2.2.2.2.2 k2 hk2 la s2 f2 e2
  -- one item
  have one : ∀ (S1 : st_S) (f : Nat → Int64) (u : Nat) (b x7 : Int32), u < n → MI S1 (shp σ k2 (some (la, s2, f))) → (k1 = k2 → f (i + u) = f1 (i + u)) → (∀ S2, Fm S1 S2 → MI S2 (shp σ k2 (some (la, s2, updL f (j + u) (f1 (i + u))))) → K118 58 (nI k1) (nI i) (nI k2) (nI j) (nI n) b (x7 + 1) (hp S2)) → sm_X7_copy_142 K118 Q 58 (nI k1) (nI i) (nI k2) (nI j) (nI n) b x7 (nI u) (hp S1) := by
    intro S1 f u b x7 hu h1 hf hk
    unfold sm_X7_copy_142
    rw [m_4, m_4, nI_d, nI_add, m_lr (by omega), nI_d, nI_add, m_ls (by omega)]
    have hr : S1.2.2 61 (24 * k1 + i + u) = f1 (i + u) := by
      have h5 := h1.2.2.2.2 k1 hk1
      rw [shp_get] at h5
      by_cases hkk : k1 = k2
      · rw [if_pos hkk] at h5
        have hse : s1 = s2 := by
          rw [hkk, e2] at e1
          simp only [Option.some.injEq, Prod.mk.injEq] at e1
          exact e1.2.1.symm
        obtain ⟨b1, b2, b3⟩ := h5
        have := b3 (i + u) (by omega)
        rw [show 24 * k1 + i + u = 24 * k1 + (i + u) by omega, this]
        exact hf hkk
      · rw [if_neg hkk, e1] at h5
        obtain ⟨b1, b2, b3⟩ := h5
        have := b3 (i + u) (by omega)
        rw [show 24 * k1 + i + u = 24 * k1 + (i + u) by omega, this]
    rw [hr, show 24 * k2 + j + u = 24 * k2 + (j + u) by omega]
    have wf1 : Wf (shp σ k2 (some (la, s2, f))) := wf.sh w2.1 w2.2
    have h2 := h1.sh (S' := sL S1 61 (24 * k2 + (j + u)) (f1 (i + u))) rfl rfl rfl (Hm.put h1 hk2 (shp_at _ _ _) wf1.2.2.2.2.2 (by omega) _)
    rw [shp_shp] at h2
    exact hk _ (Fm.G (by omega)) h2
  have feq : k1 = k2 → f1 = f2 := fun hkk => by
    rw [hkk, e2] at e1
    simp only [Option.some.injEq, Prod.mk.injEq] at e1
    exact e1.2.2.symm
  constructor
  · intro hne
    have main : ∀ m t S1, t + m = n → Fm S S1 → MI S1 (shp σ k2 (some (la, s2, fb_put f2 (fun t => f1 (i + t)) j t))) → K118 58 (nI k1) (nI i) (nI k2) (nI j) (nI n) 0 (nI t) (hp S1) := by
      intro m
      induction m with
      | zero =>
        intro t S1 e g1 h1
        apply r118
        unfold sm_X7_copy_118
        rw [if_pos (nI_le (by omega) (by omega))]
        rw [show t = n by omega] at h1
        exact hq S1 g1 h1
      | succ m ih =>
        intro t S1 e g1 h1
        apply r118
        unfold sm_X7_copy_118
        rw [if_neg (nI_ge (by omega) (by omega)), if_pos rfl]
        refine one S1 _ t 0 (nI t) (by omega) h1 (fun hkk => ?_) (fun S2 g2 h2 => ?_)
        · rw [fb_put_out (by omega), feq hkk]
        · rw [put_s (g := fun t => f1 (i + t)) rfl] at h2
          rw [nI_1]
          exact ih (t + 1) S2 (by omega) (g1.tr g2) h2
    exact main n 0 S (by omega) (Fm.rf S) (by rw [fb_put_0, shp_self e2]; exact h)
  · rintro ⟨hkk, hij⟩
    have main : ∀ m t S1, t + m = n → Fm S S1 → MI S1 (shp σ k2 (some (la, s2, fb_put f2 (fun k => f1 (i + (k + (n - t)))) (j + (n - t)) (n - (n - t))))) → K118 58 (nI k1) (nI i) (nI k2) (nI j) (nI n) 1 (nI t) (hp S1) := by
      intro m
      induction m with
      | zero =>
        intro t S1 e g1 h1
        apply r118
        unfold sm_X7_copy_118
        rw [if_pos (nI_le (by omega) (by omega))]
        rw [show n - t = 0 by omega] at h1
        exact hq S1 g1 h1
      | succ m ih =>
        intro t S1 e g1 h1
        apply r118
        unfold sm_X7_copy_118
        rw [if_neg (nI_ge (by omega) (by omega)), if_neg (by decide), show nI n - 1 - nI t = nI (n - (t + 1)) by
          rw [show nI n - 1 = nI (n - 1) from pk_sub (b := 1) (by omega), pk_sub (by omega), show n - 1 - t = n - (t + 1) by omega]]
        refine one S1 _ (n - (t + 1)) 1 (nI t) (by omega) h1 (fun _ => ?_) (fun S2 g2 h2 => ?_)
        · rw [fb_put_out (by omega), feq hkk]
        · have pd := put_d (f := f2) (g := fun t => f1 (i + t)) (a := j) (n := n) (m := n - (t + 1)) (by omega)
          rw [show n - (t + 1) + 1 = n - t by omega] at pd
          rw [pd] at h2
          rw [nI_1]
          exact ih (t + 1) S2 (by omega) (g1.tr g2) h2
    exact main n 0 S (by omega) (Fm.rf S) (by
      rw [show n - 0 = n by omega, show n - n = 0 by omega, fb_put_0, shp_self e2]; exact h)
theorem n4_sz {sz : Nat} (h : sz ≤ 24) : ¬ nI sz = -4 := fun q => by
  have q := congrArg Int32.toInt q
  rw [nI_toInt (by omega)] at q
  have : ((-4 : Int32)).toInt = -4 := by decide
  omega
theorem op_copy {σ : sg} (wf : Wf σ) (x1 x2 x3 x4 x5 : Int32) : Op tr_X6_copy tr_X7_copy σ [.int x1, .int x2, .int x3, .int x4, .int x5] := by
  have wz := wf.2.2.2.2.2
  rcases in_4 x1 with ⟨a, ha, rfl, e1⟩ | e1
  · rcases in_4 x3 with ⟨b, hb, rfl, e3⟩ | e3
    · cases sa : σ.2.2.2.2 a with
      | none =>
        refine Op.same (-11) (fun S Q h hq => ?_) (fun S Q h hq => ?_)
        · rw [tq_X6_copy]; unfold sm_X6_copy_0
          have ho := h.2.2.2.2 a ha
          rw [sa] at ho
          have ho : S.1 (50 + 2 * a) 0 = 0 := ho
          rw [e_CisSheet, e1]
          simp only [sr_I]
          rw [if_neg (by decide), e_CisSheet, e3]
          simp only [sr_I]
          rw [if_pos (by decide), c_8, s_r ha, c_8, s_r hb, hq_I (k := 0) (s_k a ha).1 rfl, ho, if_pos (by decide)]
          exact hq
        · rw [tq_X7_copy]; intro K r; unfold sm_X7_copy_0
          have ho := h.2.2.2.2 a ha
          rw [sa] at ho
          have ho : S.2.1 63 a = -4 := ho
          rw [e_MisSheet, e1]
          simp only [sr_I]
          rw [if_neg (by decide), e_MisSheet, e3]
          simp only [sr_I]
          rw [if_pos (by decide), m_6, l_r rfl rfl ha, ho, if_pos rfl]
          exact hq
      | some qa =>
        obtain ⟨l1, s1, f1⟩ := qa
        have wa := wz a ha l1 s1 f1 sa
        cases sb : σ.2.2.2.2 b with
        | none =>
          refine Op.same (-11) (fun S Q h hq => ?_) (fun S Q h hq => ?_)
          · rw [tq_X6_copy]; unfold sm_X6_copy_0
            have hoa := h.2.2.2.2 a ha
            have hob := h.2.2.2.2 b hb
            rw [sa] at hoa
            rw [sb] at hob
            have hob : S.1 (50 + 2 * b) 0 = 0 := hob
            obtain ⟨a1, a2, a3, a4, a5, a6⟩ := hoa
            rw [e_CisSheet, e1]
            simp only [sr_I]
            rw [if_neg (by decide), e_CisSheet, e3]
            simp only [sr_I]
            rw [if_pos (by decide), c_8, s_r ha, c_8, s_r hb, hq_I (k := 0) (s_k a ha).1 rfl, a3, if_neg (by decide), hq_I (k := 0) (s_k b hb).1 rfl, hob, if_neg (by decide)]
            exact hq
          · rw [tq_X7_copy]; intro K r; unfold sm_X7_copy_0
            have hoa := h.2.2.2.2 a ha
            have hob := h.2.2.2.2 b hb
            rw [sa] at hoa
            rw [sb] at hob
            have hob : S.2.1 63 b = -4 := hob
            obtain ⟨a1, a2, a3⟩ := hoa
            rw [e_MisSheet, e1]
            simp only [sr_I]
            rw [if_neg (by decide), e_MisSheet, e3]
            simp only [sr_I]
            rw [if_pos (by decide), m_6, l_r rfl rfl ha, a1, if_neg (n4_sz wa.2), m_6, l_r rfl rfl hb, hob, if_neg (by decide)]
            exact hq
        | some qb =>
          obtain ⟨l2, s2, f2⟩ := qb
          have wb := wz b hb l2 s2 f2 sb
          -- both are there
          have cls : ∀ S Q, CI S σ → (if nI l1 = nI l2 then (if (if spn s1 x2 x5 then (1 : Int32) else 0) = 0 then Q (some (.int (-13))) (hp S) else (if ¬ (if spn s2 x4 x5 then (1 : Int32) else 0) = 0 then (sc_L (hp S) (51 + 2 * a) x2 (51 + 2 * b) x4 x5 fun h23 => Q (some (.int x5)) h23) else (Q (some (.int (-13))) (hp S)))) else Q (some (.int (-12))) (hp S)) → tr_X6_copy [.ref 0, .int (nI a), .int x2, .int (nI b), .int x4, .int x5] (hp S) Q := by
            intro S Q h hk
            rw [tq_X6_copy]; unfold sm_X6_copy_0
            have hoa := h.2.2.2.2 a ha
            have hob := h.2.2.2.2 b hb
            rw [sa] at hoa
            rw [sb] at hob
            obtain ⟨a1, a2, a3, a4, a5, a6⟩ := hoa
            obtain ⟨b1, b2, b3, b4, b5, b6⟩ := hob
            rw [e_CisSheet, e1]
            simp only [sr_I]
            rw [if_neg (by decide), e_CisSheet, e3]
            simp only [sr_I]
            rw [if_pos (by decide), c_8, s_r ha, c_8, s_r hb, hq_I (k := 0) (s_k a ha).1 rfl, a3, if_neg (by decide), hq_I (k := 0) (s_k b hb).1 rfl, b3, if_pos (by decide), hq_I (k := 1) (s_k a ha).1 rfl, a4, hq_I (k := 1) (s_k b hb).1 rfl, b4]
            by_cases hl : nI l1 = nI l2
            · rw [if_pos hl] at hk ⊢
              rw [s_v ha, e_spans ha a5]
              simp only [sr_I]
              by_cases hc : (if spn s1 x2 x5 then (1 : Int32) else 0) = 0
              · rw [if_pos hc] at hk ⊢
                exact hk
              · rw [if_neg hc] at hk ⊢
                rw [s_v hb, e_spans hb b5]
                simp only [sr_I]
                by_cases hc2 : ¬ (if spn s2 x4 x5 then (1 : Int32) else 0) = 0
                · rw [if_pos hc2] at hk ⊢
                  rw [s_3 ha, s_3 hb]
                  exact hk
                · rw [if_neg hc2] at hk ⊢
                  exact hk
            · rw [if_neg hl] at hk ⊢
              exact hk
          have mdl : ∀ S Q, MI S σ → ∀ (K : Nat → Int32 → Int32 → Int32 → Int32 → Int32 → Int32 → Int32 → aw_H → Prop), (if nI l1 = nI l2 then (if spn s1 x2 x5 = false then Q (some (.int (-13))) (hp S) else if spn s2 x4 x5 = false then Q (some (.int (-13))) (hp S) else (if ¬ nI a = nI b then (K 58 (nI a) x2 (nI b) x4 x5 0 0 (hp S)) else (if x4 ≤ x2 then (K 58 (nI a) x2 (nI b) x4 x5 0 0 (hp S)) else (K 58 (nI a) x2 (nI b) x4 x5 1 0 (hp S))))) else Q (some (.int (-12))) (hp S)) → sm_X7_copy_0 K Q 58 (nI a) x2 (nI b) x4 x5 (hp S) := by
            intro S Q h K hk
            unfold sm_X7_copy_0
            have hoa := h.2.2.2.2 a ha
            have hob := h.2.2.2.2 b hb
            have fa : ∀ (la : Int32) (Q' : aw_R), tr_X7_found [.ref 58, .int (nI a), .int la, .int x2, .int x5] (hp S) Q' = Q' (some (.int (fnd (some (l1, s1, f1)) la x2 x5))) (hp S) := fun la Q' => by
              rw [e_found ha hoa (fun l sz f e => (wz a ha l sz f e).2), sa]
            have fb : ∀ (la : Int32) (Q' : aw_R), tr_X7_found [.ref 58, .int (nI b), .int la, .int x4, .int x5] (hp S) Q' = Q' (some (.int (fnd (some (l2, s2, f2)) la x4 x5))) (hp S) := fun la Q' => by
              rw [e_found hb hob (fun l sz f e => (wz b hb l sz f e).2), sb]
            rw [sa] at hoa
            rw [sb] at hob
            obtain ⟨a1, a2, a3⟩ := hoa
            obtain ⟨b1, b2, b3⟩ := hob
            rw [e_MisSheet, e1]
            simp only [sr_I]
            rw [if_neg (by decide), e_MisSheet, e3]
            simp only [sr_I]
            rw [if_pos (by decide), m_6, l_r rfl rfl ha, a1, if_neg (n4_sz wa.2), m_6, l_r rfl rfl hb, b1, if_pos (n4_sz wb.2), m_5, l_r rfl rfl ha, a2, m_5, l_r rfl rfl hb, b2]
            by_cases hl : nI l1 = nI l2
            · rw [if_pos hl] at hk ⊢
              rw [m_5, l_r rfl rfl ha, a2, m_v, fa, show fnd (some (l1, s1, f1)) (nI l1) x2 x5 = if spn s1 x2 x5 then 0 else -13 from if_pos rfl]
              simp only [sr_I]
              cases c1 : spn s1 x2 x5
              · rw [c1, if_pos rfl] at hk
                rw [if_pos (by decide)]
                exact hk
              · rw [c1, if_neg (by decide)] at hk
                rw [if_neg (by decide), m_5, l_r rfl rfl ha, a2, m_v, fb, show fnd (some (l2, s2, f2)) (nI l1) x4 x5 = if spn s2 x4 x5 then 0 else -13 from if_pos hl.symm]
                simp only [sr_I]
                cases c2 : spn s2 x4 x5
                · rw [c2, if_pos rfl] at hk
                  rw [if_neg (by decide)]
                  exact hk
                · rw [c2, if_neg (by decide)] at hk
                  rw [if_pos (by decide)]
                  exact hk
            · rw [if_neg hl] at hk ⊢
              exact hk
          by_cases hl : nI l1 = nI l2
          · have hll : l1 = l2 := (nI_eq (by omega) (by omega)).mp hl
            subst hll
            cases c1 : spn s1 x2 x5
            · refine Op.same (-13) (fun S Q h hq => cls S Q h ?_) (fun S Q h hq => ?_)
              · rw [if_pos hl, c1, if_pos (by decide)]
                exact hq
              · rw [tq_X7_copy]; intro K r
                refine mdl S Q h K ?_
                rw [if_pos hl, c1, if_pos rfl]
                exact hq
            · cases c2 : spn s2 x4 x5
              · refine Op.same (-13) (fun S Q h hq => cls S Q h ?_) (fun S Q h hq => ?_)
                · rw [if_pos hl, c1, if_neg (by decide), c2, if_neg (by decide)]
                  exact hq
                · rw [tq_X7_copy]; intro K r
                  refine mdl S Q h K ?_
                  rw [if_pos hl, c1, if_neg (by decide), c2, if_pos rfl]
                  exact hq
              · obtain ⟨i, n, rfl, rfl, hin⟩ := spn_nat wa.2 c1
                obtain ⟨j, n', rfl, hnn, hjn⟩ := spn_nat wb.2 c2
                have : n = n' := (nI_eq (by omega) (by omega)).mp hnn
                subst this
                refine ⟨nI n, shp σ b (some (l1, s2, fb_put f2 (fun t => f1 (i + t)) j n)), fun S Q h hq => cls S Q h ?_, fun S Q h hq => ?_⟩
                · have hoa := h.2.2.2.2 a ha
                  have hob := h.2.2.2.2 b hb
                  rw [sa] at hoa
                  rw [sb] at hob
                  obtain ⟨a1, a2, a3, a4, a5, a6⟩ := hoa
                  obtain ⟨b1, b2, b3, b4, b5, b6⟩ := hob
                  rw [if_pos hl, c1, if_neg (by decide), c2, if_pos (by decide), hc_L (s_k a ha).2.1 (s_k b hb).2.1, (s_k a ha).2.2, (s_k b hb).2.2, cl (by omega), cl (by omega), cl (by omega)]
                  refine ⟨nI_pos (by omega), nI_pos (by omega), nI_pos (by omega), by omega, by omega, ?_⟩
                  refine hq _ ((Sx.G (ps := [51 + 2 * b]) (by simp)).fc (by simp; omega)) (h.sh (fun q _ _ q2 => Sx.G (ps := [51 + 2 * b]) (by simp) q (by simp [q2])) hb ⟨b1, b2, b3, b4, b5, fun t ht => ?_⟩)
                  rw [sG_at]
                  by_cases htt : j ≤ t ∧ t < j + n
                  · rw [pk_cpy_in htt.1 htt.2, fb_put_in htt.1 htt.2]
                    exact a6 _ (by omega)
                  · rw [pk_cpy_out (by omega), fb_put_out (by omega)]
                    exact b6 t ht
                · rw [tq_X7_copy]; intro K r
                  refine mdl S Q h K ?_
                  obtain ⟨g1, g2⟩ := i_copyM h wf ha hb sa sb hin hjn r hq
                  rw [if_pos hl, c1, if_neg (by decide), c2, if_neg (by decide)]
                  by_cases hab : nI a = nI b
                  · have hab' : a = b := (nI_eq (by omega) (by omega)).mp hab
                    rw [if_neg (fun q => q hab)]
                    by_cases hij : j ≤ i
                    · rw [if_pos (nI_le hij (by omega))]
                      exact g1 (by omega)
                    · rw [if_neg (nI_ge (by omega) (by omega))]
                      exact g2 ⟨hab', by omega⟩
                  · rw [if_pos hab]
                    exact g1 (fun q => hab (by rw [q.1]))
          · refine Op.same (-12) (fun S Q h hq => cls S Q h ?_) (fun S Q h hq => ?_)
            · rw [if_neg hl]
              exact hq
            · rw [tq_X7_copy]; intro K r
              refine mdl S Q h K ?_
              rw [if_neg hl]
              exact hq
    · refine Op.same (-1) (fun S Q h hq => ?_) (fun S Q h hq => ?_)
      · rw [tq_X6_copy]; unfold sm_X6_copy_0
        rw [e_CisSheet, e1]
        simp only [sr_I]
        rw [if_neg (by decide), e_CisSheet, e3]
        simp only [sr_I]
        rw [if_neg (by decide)]
        exact hq
      · rw [tq_X7_copy]; intro K r; unfold sm_X7_copy_0
        rw [e_MisSheet, e1]
        simp only [sr_I]
        rw [if_neg (by decide), e_MisSheet, e3]
        simp only [sr_I]
        rw [if_neg (by decide)]
        exact hq
  · refine Op.same (-1) (fun S Q h hq => ?_) (fun S Q h hq => ?_)
    · rw [tq_X6_copy]; unfold sm_X6_copy_0
      rw [e_CisSheet, e1]
      simp only [sr_I]
      rw [if_pos (by decide)]
      exact hq
    · rw [tq_X7_copy]; intro K r; unfold sm_X7_copy_0
      rw [e_MisSheet, e1]
      simp only [sr_I]
      rw [if_pos (by decide)]
      exact hq
