/-! pair -/
/-- the gates between i and j -/
def gmid (γ : Nat → gt) (i j t : Nat) : Nat := grun (fun k => γ (i + 1 + k)) (j - (i + 1)) t
theorem gmid_0 (γ : Nat → gt) (i t : Nat) : gmid γ i (i + 1) t = t := by
  unfold gmid
  rw [Nat.sub_self]
  rfl
theorem gmid_s {γ : Nat → gt} {i j : Nat} (h : i < j) (t : Nat) : gmid γ i (j + 1) t = gact (γ j) (gmid γ i j t) := by
  unfold gmid
  rw [show j + 1 - (i + 1) = (j - (i + 1)) + 1 by omega]
  show gact (γ (i + 1 + (j - (i + 1)))) _ = _
  rw [show i + 1 + (j - (i + 1)) = j by omega]
theorem gmid_w {w : Nat} {γ : Nat → gt} {i j n : Nat} (hg : ∀ g, g < n → gok w (γ g)) (hj : j ≤ n) (hij : i < j) {t : Nat} (ht : t < 2 ^ w) : gmid γ i j t < 2 ^ w := grun_w (fun k hk => hg _ (by omega)) ht
theorem pair_eq {w : Nat} {γ : Nat → gt} {i j n : Nat} (hw : w ≤ 6) (hg : ∀ g, g < n → gok w (γ g)) (hij : i < j) (hj : j < n) : (∀ s, s < 2 ^ w → grun (gkl (gkl γ i) j) n s = grun γ n s) ↔ ∀ t, t < 2 ^ w → gact (γ j) (gmid γ i j (gact (γ i) t)) = gmid γ i j t := by
  have hp := pw_le hw
  have e1 : ∀ s, grun (gkl (gkl γ i) j) n s = grun (fun k => γ (j + 1 + k)) (n - (j + 1)) (gmid γ i j (grun γ i s)) := by
    intro s
    rw [grun_kl hj, grun_kl hij]
    exact grun_cong (fun k hk => if_neg (by omega)) _
  have e2 : ∀ s, grun γ n s = grun (fun k => γ (j + 1 + k)) (n - (j + 1)) (gact (γ j) (gmid γ i j (gact (γ i) (grun γ i s)))) := by
    intro s
    rw [grun_at hj, grun_at hij]
    rfl
  have l1 : ∀ t, t < 2 ^ w → gmid γ i j t < 2 ^ w := fun t ht => gmid_w hg (by omega) hij ht
  have l2 : ∀ t, t < 2 ^ w → gact (γ j) (gmid γ i j (gact (γ i) t)) < 2 ^ w := fun t ht => gact_w (hg j hj) (l1 _ (gact_w (hg i (by omega)) ht))
  have li : ∀ s, s < 2 ^ w → grun γ i s < 2 ^ w := fun s hs => grun_w (fun k hk => hg k (by omega)) hs
  constructor
  · intro h t ht
    obtain ⟨s, hs, rfl⟩ := fb_onto (n := 2 ^ w) (f := grun γ i) li (fun a b hab hb e => by
      have := grun_one hw (fun k hk => hg k (by omega)) (by omega) (by omega) e
      omega) ht
    have := h s hs
    rw [e1, e2] at this
    have a1 := l1 _ (li s hs)
    have a2 := l2 _ (li s hs)
    exact (grun_one hw (fun k hk => hg _ (by omega)) (by omega) (by omega) this).symm
  · intro h s hs
    rw [e1, e2, h _ (li s hs)]
/-- may i and j be left out together -/
def lout (B : bd) (i j : Nat) : Bool := (bG B i).2.2.2.2 == 0 && (bG B j).2.2.2.2 == 0 && eqf (fun t => gact (bG B j) (gmid (bG B) i j (gact (bG B i) t))) (gmid (bG B) i j) (2 ^ bW B)
def pin (P : Nat → Bool) (i : Nat) (els : Int32) : Nat → Nat → Int32
  | 0, _ => els
  | m + 1, j => if P j then nI (100 * i + j) else pin P i els m (j + 1)
def pout (P : Nat → Nat → Bool) (n : Nat) : Nat → Nat → Int32
  | 0, _ => -4
  | m + 1, i => pin (P i) i (pout P n m (i + 1)) (n - (i + 1)) (i + 1)
theorem w_f {S : st_S} {f : Nat → Int32} : Sx [47] S (sF S 47 f) := Sx.F (by simp)
theorem i_leftOut {S : st_S} {B : bd} (hB : Bo S 1 B) (ok : Bok B) {i j : Nat} (hij : i < j) (hj : j < bN B) (hm : ∀ t, t < 2 ^ bW B → S.2.1 47 t = nI (gmid (bG B) i j t)) {Q : aw_R} (hq : Q (some (.int (if lout B i j then 1 else 0))) (hp S)) : tr_X1_mayBeLeftOut [.ref 45, .int (nI (gpk (bG B i))), .int (nI (gpk (bG B j)))] (hp S) Q := by
  rw [tq_X1_mayBeLeftOut]
  intro K27 r27
  have hw6 := ok.1.2
  have hw := pw_le hw6
  have gi := ok.2.2.2.2.2 i (by omega)
  have gj := ok.2.2.2.2.2 j hj
  unfold sm_X1_mayBeLeftOut_0
  rw [e_isDead, gisd hw6 gi]
  simp only [sr_I]
  unfold lout at hq
  have di := gi.2.2.2.2.1
  have dj := gj.2.2.2.2.1
  by_cases h1 : (bG B i).2.2.2.2 = 0
  · rw [h1, if_neg (fun q => q rfl), e_isDead, gisd hw6 gj]
    simp only [sr_I]
    by_cases h2 : (bG B j).2.2.2.2 = 0
    · rw [h2, if_pos p00, f_0, b_v, e_Bstates k1 hB ok]
      simp only [sr_I]
      rw [h1, h2] at hq
      have main : ∀ m s, s + m = 2 ^ bW B → (∀ t, t < s → gact (bG B j) (gmid (bG B) i j (gact (bG B i) t)) = gmid (bG B) i j t) → K27 45 (nI (gpk (bG B i))) (nI (gpk (bG B j))) (nI (2 ^ bW B)) (nI s) (hp S) := by
        intro m
        induction m with
        | zero =>
          intro s e hs
          apply r27
          unfold sm_X1_mayBeLeftOut_27
          rw [if_pos (nI_le (by omega) (by omega))]
          rw [eqf_t.mpr (fun t h => hs t (by omega))] at hq
          exact hq
        | succ m ih =>
          intro s e hs
          apply r27
          unfold sm_X1_mayBeLeftOut_27
          have a1 := gact_w gi (show s < 2 ^ bW B by omega)
          have a2 := gmid_w ok.2.2.2.2.2 (show j ≤ bN B by omega) hij a1
          have a3 := gact_w gj a2
          have a4 := gmid_w ok.2.2.2.2.2 (show j ≤ bN B by omega) hij (show s < 2 ^ bW B by omega)
          rw [if_neg (nI_ge (by omega) (by omega)), f_2, e_act gi hw6 (by omega)]
          simp only [sr_I]
          rw [a_r rfl rfl (by omega), hm _ a1, e_act gj hw6 (by omega)]
          simp only [sr_I]
          rw [f_2, a_r rfl rfl (by omega), hm s (by omega), nI_1]
          by_cases hc : gact (bG B j) (gmid (bG B) i j (gact (bG B i) s)) = gmid (bG B) i j s
          · rw [if_pos (by rw [hc])]
            exact ih (s + 1) (by omega) (fun t h => by
              by_cases htt : t = s
              · rw [htt]; exact hc
              · exact hs t (by omega))
          · rw [if_neg (fun q => hc ((nI_eq (by omega) (by omega)).mp q))]
            rw [eqf_f s (by omega) hc] at hq
            exact hq
      exact main (2 ^ bW B) 0 (by omega) (fun t h => absurd h (Nat.not_lt_zero t))
    · rw [if_neg (nI_ne0 (Nat.pos_of_ne_zero h2) (by omega))]
      simp [h2] at hq
      exact hq
  · rw [if_pos (nI_ne0 (Nat.pos_of_ne_zero h1) (by omega))]
    simp [h1] at hq
    exact hq
theorem i_pairC {S : st_S} {B : bd} (hB : Bo S 1 B) (ok : Bok B) {Q : aw_R} (hq : ∀ S', Sx [47] S S' → Q (some (.int (pout (lout B) (bN B) (bN B) 0))) (hp S')) : tr_X1_firstPair [.ref 45] (hp S) Q := by
  rw [tq_X1_firstPair]
  intro K10 K23 K45 K91 r10 r23 r45 r91
  have hw6 := ok.1.2
  have hw := pw_le hw6
  have hn := ok.2.1
  have kB : ∀ {S1}, Sx [47] S S1 → Bo S1 1 B := fun s1 => hB.kept (s1 1 (by simp)) (s1 2 (by simp))
  -- the work goes on by gate j
  have wk : ∀ m i j s S1, s + m = 2 ^ bW B → i < j → j < bN B → Sx [47] S S1 → (∀ t, t < 2 ^ bW B → S1.2.1 47 t = if t < s then nI (gmid (bG B) i (j + 1) t) else nI (gmid (bG B) i j t)) → (∀ S2, Sx [47] S S2 → (∀ t, t < 2 ^ bW B → S2.2.1 47 t = nI (gmid (bG B) i (j + 1) t)) → K45 45 (nI (2 ^ bW B)) (nI i) (nI (j + 1)) (hp S2)) → K91 45 (nI (2 ^ bW B)) (nI i) (nI j) (nI s) (hp S1) := by
    intro m
    induction m with
    | zero =>
      intro i j s S1 e hij hj s1 hm hk
      apply r91
      unfold sm_X1_firstPair_91
      rw [if_pos (nI_le (by omega) (by omega)), nI_1]
      exact hk S1 s1 (fun t ht => by rw [hm t ht, if_pos (by omega)])
    | succ m ih =>
      intro i j s S1 e hij hj s1 hm hk
      apply r91
      unfold sm_X1_firstPair_91
      have gj := ok.2.2.2.2.2 j hj
      have a4 := gmid_w ok.2.2.2.2.2 (show j ≤ bN B by omega) hij (show s < 2 ^ bW B by omega)
      rw [if_neg (nI_ge (by omega) (by omega)), f_2, f_0, b_2, g_r (by omega), (kB s1).2.2.2.2.2 j hj, f_2, a_r rfl rfl (by omega), hm s (by omega), if_neg (by omega), e_act gj hw6 (by omega)]
      simp only [sr_I]
      rw [a_s rfl rfl (by omega), sA_F, nI_1]
      refine ih i j (s + 1) _ (by omega) hij hj (s1.tr w_f) (fun t ht => ?_) hk
      rw [sF_at]
      by_cases hts : t = s
      · rw [hts, pk_us, if_pos (by omega), gmid_s hij]
      · rw [pk_un hts, hm t ht]
        by_cases h2 : t < s
        · rw [if_pos h2, if_pos (by omega)]
        · rw [if_neg h2, if_neg (by omega)]
  have inn : ∀ m i j S1 els, j + m = bN B → i < j → Sx [47] S S1 → (∀ t, t < 2 ^ bW B → S1.2.1 47 t = nI (gmid (bG B) i j t)) → (∀ S2, Sx [47] S S2 → Q (some (.int (pin (lout B i) i els m j))) (hp S2)) → ((∀ S2, Sx [47] S S2 → Q (some (.int els)) (hp S2)) → ∀ S2, Sx [47] S S2 → K10 45 (nI (2 ^ bW B)) (nI (i + 1)) (hp S2)) → K45 45 (nI (2 ^ bW B)) (nI i) (nI j) (hp S1) := by
    intro m
    induction m with
    | zero =>
      intro i j S1 els e hij s1 hm hq' hk
      apply r45
      unfold sm_X1_firstPair_45
      rw [f_0, hq_I (k := 1) k1 rfl, (kB s1).2.1, if_pos (nI_le (by omega) (by omega)), nI_1]
      exact hk hq' S1 s1
    | succ m ih =>
      intro i j S1 els e hij s1 hm hq' hk
      apply r45
      unfold sm_X1_firstPair_45
      rw [f_0, hq_I (k := 1) k1 rfl, (kB s1).2.1, if_neg (nI_ge (by omega) (by omega)), f_0, b_2, g_r (by omega), (kB s1).2.2.2.2.2 i (by omega), f_0, b_2, g_r (by omega), (kB s1).2.2.2.2.2 j (by omega), f_v]
      refine i_leftOut (kB s1) ok hij (by omega) hm ?_
      simp only [sr_I]
      have e1 : pin (lout B i) i els (m + 1) j = if lout B i j then nI (100 * i + j) else pin (lout B i) i els m (j + 1) := rfl
      cases hc : lout B i j
      · rw [if_pos (by decide)]
        rw [e1, hc] at hq'
        refine wk (2 ^ bW B) i j 0 S1 (by omega) hij (by omega) s1 (fun t ht => by rw [if_neg (Nat.not_lt_zero t)]; exact hm t ht) (fun S2 s2 hm2 => ?_)
        exact ih i (j + 1) S2 els (by omega) (by omega) s2 hm2 hq' hk
      · rw [if_neg (by decide)]
        rw [e1, hc, if_pos rfl] at hq'
        rw [show (100 : Int32) * nI i + nI j = nI (100 * i + j) by rw [show (100 : Int32) = nI 100 from rfl, pk_mul, nI_add]]
        exact hq' S1 s1
  have fil : ∀ m i s S1, s + m = 2 ^ bW B → Sx [47] S S1 → (∀ t, t < s → S1.2.1 47 t = nI t) → (∀ S2, Sx [47] S S2 → (∀ t, t < 2 ^ bW B → S2.2.1 47 t = nI t) → K45 45 (nI (2 ^ bW B)) (nI i) (nI (i + 1)) (hp S2)) → K23 45 (nI (2 ^ bW B)) (nI i) (nI s) (hp S1) := by
    intro m
    induction m with
    | zero =>
      intro i s S1 e s1 hm hk
      apply r23
      unfold sm_X1_firstPair_23
      rw [if_pos (nI_le (by omega) (by omega)), nI_1]
      exact hk S1 s1 (fun t ht => hm t (by omega))
    | succ m ih =>
      intro i s S1 e s1 hm hk
      apply r23
      unfold sm_X1_firstPair_23
      rw [if_neg (nI_ge (by omega) (by omega)), f_2, a_s rfl rfl (by omega), sA_F, nI_1]
      refine ih i (s + 1) _ (by omega) (s1.tr w_f) (fun t ht => ?_) hk
      rw [sF_at]
      by_cases hts : t = s
      · rw [hts, pk_us]
      · rw [pk_un hts, hm t (by omega)]
  have out : ∀ m i, i + m = bN B → (∀ S2, Sx [47] S S2 → Q (some (.int (pout (lout B) (bN B) m i))) (hp S2)) → ∀ S1, Sx [47] S S1 → K10 45 (nI (2 ^ bW B)) (nI i) (hp S1) := by
    intro m
    induction m with
    | zero =>
      intro i e hq' S1 s1
      apply r10
      unfold sm_X1_firstPair_10
      rw [f_0, hq_I (k := 1) k1 rfl, (kB s1).2.1, if_pos (nI_le (by omega) (by omega))]
      exact hq' S1 s1
    | succ m ih =>
      intro i e hq' S1 s1
      apply r10
      unfold sm_X1_firstPair_10
      rw [f_0, hq_I (k := 1) k1 rfl, (kB s1).2.1, if_neg (nI_ge (by omega) (by omega))]
      refine fil (2 ^ bW B) i 0 S1 (by omega) s1 (fun t ht => absurd ht (Nat.not_lt_zero t)) (fun S2 s2 hm => ?_)
      refine inn (bN B - (i + 1)) i (i + 1) S2 (pout (lout B) (bN B) m (i + 1)) (by omega) (by omega) s2 (fun t ht => by rw [hm t ht, gmid_0]) hq' ?_
      exact fun q S3 s3 => ih (i + 1) (by omega) q S3 s3
  unfold sm_X1_firstPair_0
  rw [f_0, b_v, e_Bstates k1 hB ok]
  simp only [sr_I]
  exact out (bN B) 0 (by omega) hq S (Sx.rf _ S)
theorem shr_bit {n k : Nat} (h : n < 2 ^ 31) (hk : k < 16) : (nI n >>> (nI k &&& 31)) &&& 1 = nI (n / 2 ^ k % 2) := by
  rw [pk_shrN h (nI k &&& 31) k ((by decide +kernel : ∀ k, k < 16 → ((nI k &&& 31).toBitVec.smod 32).toNat = k) k hk), show (1 : Int32) = nI (2 ^ 1 - 1) from rfl, fa_mask]
theorem gdead_bs {γ : Nat → gt} : ∀ {n : Nat}, (∀ g, g < n → (γ g).2.2.2.2 < 2) → gdead γ n = bs (fun k => (γ k).2.2.2.2 == 1) n
  | 0, _ => rfl
  | n + 1, h => by
    have h2 := h n (by omega)
    show gdead γ n + (γ n).2.2.2.2 * 2 ^ n = bs _ n + _
    rw [gdead_bs (fun g hg => h g (by omega))]
    rcases (show (γ n).2.2.2.2 = 0 ∨ (γ n).2.2.2.2 = 1 by omega) with q | q <;> simp [q]
theorem has_dead {γ : Nat → gt} {n i : Nat} (h : ∀ g, g < n → (γ g).2.2.2.2 < 2) (hn : n ≤ 16) (hi : i < n) : has1 (nI (gdead γ n)) (nI i) = nI (γ i).2.2.2.2 := by
  have hl := gdead_lt h
  have := p2_16 hn
  unfold has1
  rw [shr_bit (by omega) (by omega)]
  have e := bs_bit (fun k => (γ k).2.2.2.2 == 1) i n
  rw [← gdead_bs h, Nat.testBit_eq_decide_div_mod_eq] at e
  have hd := h i hi
  rcases (show (γ i).2.2.2.2 = 0 ∨ (γ i).2.2.2.2 = 1 by omega) with q | q
  · simp [hi, q] at e
    rw [q, e]
    decide
  · simp [hi, q] at e
    rw [q, e]
    decide
theorem op_pair {σ : sg} (wf : Wf σ) : Op tr_X6_pair tr_X7_pair σ [] := by
  have hw6 := wf.1.1.2
  have hw := pw_le hw6
  have hn := wf.1.2.1
  have ok := wf.1.2.2.2.2.2
  refine ⟨pout (lout σ.1) (bN σ.1) (bN σ.1) 0, σ, fun S Q h hq => ?_, fun S Q h hq => ?_⟩
  · rw [tq_X6_pair]; unfold sm_X6_pair_0
    rw [c_7, f_v]
    refine i_pairC h.1.2 h.1.1 (fun S1 s1 => ?_)
    simp only [sr_I]
    have s2 : Sx [45, 46, 47, 48] S S1 := s1.mono (by simp)
    exact hq S1 (fo_fc s2) (h.fo s2)
  · rw [tq_X7_pair]
    intro K6 K20 r6 r20
    unfold sm_X7_pair_0
    rw [m_v]
    refine i_layRuns h wf (fun S1 f1 h1 t1 _ _ => ?_)
    simp only [sr_V]
    have w1 : ∀ {S2 K}, Te S1 S2 → sa_I (hp S2) 59 1 K = K (nI (bN σ.1)) := fun {S2 K} t => by
      rw [show (sa_I (hp S2) 59 1 K) = _ from m_wn (n := 1) (by omega), show S2.2.1 59 1 = nI (bN σ.1) from (t.mi h1 wf).1.2.1]
    have inn : ∀ m i j S2 els, j + m = bN σ.1 → i < j → Te S1 S2 → (∀ S3, Te S1 S3 → Q (some (.int (pin (lout σ.1 i) i els m j))) (hp S3)) → ((∀ S3, Te S1 S3 → Q (some (.int els)) (hp S3)) → ∀ S3, Te S1 S3 → K6 58 (nI (i + 1)) (hp S3)) → K20 58 (nI i) (nI j) (hp S2) := by
      intro m
      induction m with
      | zero =>
        intro i j S2 els e hij t2 hq' hk
        apply r20
        unfold sm_X7_pair_20
        rw [m_0, w1 t2, if_pos (nI_le (by omega) (by omega)), nI_1]
        exact hk hq' S2 t2
      | succ m ih =>
        intro i j S2 els e hij t2 hq' hk
        apply r20
        unfold sm_X7_pair_20
        rw [m_0, w1 t2, if_neg (nI_ge (by omega) (by omega)), m_v]
        have h2 := t2.mi h1 wf
        refine i_try h2 wf (fun S3 y3 => ?_)
        simp only [sr_V]
        rw [hv_O k58 (by decide)]
        refine i_killIn y3 (show i < bN σ.1 by omega) hn (fun S4 y4 => ?_)
        simp only [sr_V]
        rw [hv_O k58 (by decide)]
        refine i_killIn y4 (show j < bN σ.1 by omega) hn (fun S5 y5 => ?_)
        simp only [sr_V]
        have t5 := t2.tr y5.1
        have h5 := t5.mi h1 wf
        have dd : ∀ g, g < bN σ.1 → (bG σ.1 g).2.2.2.2 < 2 := fun g hg => (ok g hg).2.2.2.2.1
        rw [m_v]
        refine i_Mdead h5.1 wf.1 ?_
        simp only [sr_I]
        rw [e_has, has_dead dd hn (show i < bN σ.1 by omega)]
        simp only [sr_I]
        have e1 : pin (lout σ.1 i) i els (m + 1) j = if lout σ.1 i j then nI (100 * i + j) else pin (lout σ.1 i) i els m (j + 1) := rfl
        rw [nI_1]
        by_cases d1 : (bG σ.1 i).2.2.2.2 = 0
        · rw [d1, if_neg (fun q => q rfl), m_v]
          refine i_Mdead h5.1 wf.1 ?_
          simp only [sr_I]
          rw [e_has, has_dead dd hn (show j < bN σ.1 by omega)]
          simp only [sr_I]
          by_cases d2 : (bG σ.1 j).2.2.2.2 = 0
          · rw [d2, if_neg (fun q => q rfl), m_v]
            refine i_isSame h5 wf y5.2 (gkl_ok (gkl_ok ok (by omega)) (by omega)) (t5.tb t1) ?_
            simp only [sr_I]
            have e2 : eqf (grun (gkl (gkl (bG σ.1) i) j) (bN σ.1)) (rn σ.1) (2 ^ bW σ.1) = lout σ.1 i j := by
              unfold lout
              rw [d1, d2, eqf_cong (pair_eq hw6 ok hij (show j < bN σ.1 by omega))]
              rfl
            rw [e2]
            cases hc : lout σ.1 i j
            · rw [if_pos (by decide)]
              rw [e1, hc] at hq'
              exact ih i (j + 1) S5 els (by omega) (by omega) t5 hq' hk
            · rw [if_neg (by decide)]
              rw [e1, hc, if_pos rfl] at hq'
              rw [show (100 : Int32) * nI i + nI j = nI (100 * i + j) by rw [show (100 : Int32) = nI 100 from rfl, pk_mul, nI_add]]
              exact hq' S5 t5
          · rw [if_pos (nI_ne0 (Nat.pos_of_ne_zero d2) (by have := dd j (by omega); omega))]
            rw [e1, show lout σ.1 i j = false by simp [lout, d2]] at hq'
            exact ih i (j + 1) S5 els (by omega) (by omega) t5 hq' hk
        · rw [if_pos (nI_ne0 (Nat.pos_of_ne_zero d1) (by have := dd i (by omega); omega))]
          rw [e1, show lout σ.1 i j = false by simp [lout, d1]] at hq'
          exact ih i (j + 1) S5 els (by omega) (by omega) t5 hq' hk
    have out : ∀ m i, i + m = bN σ.1 → (∀ S2, Te S1 S2 → Q (some (.int (pout (lout σ.1) (bN σ.1) m i))) (hp S2)) → ∀ S2, Te S1 S2 → K6 58 (nI i) (hp S2) := by
      intro m
      induction m with
      | zero =>
        intro i e hq' S2 t2
        apply r6
        unfold sm_X7_pair_6
        rw [m_0, w1 t2, if_pos (nI_le (by omega) (by omega))]
        exact hq' S2 t2
      | succ m ih =>
        intro i e hq' S2 t2
        apply r6
        unfold sm_X7_pair_6
        rw [m_0, w1 t2, if_neg (nI_ge (by omega) (by omega)), nI_1]
        refine inn (bN σ.1 - (i + 1)) i (i + 1) S2 (pout (lout σ.1) (bN σ.1) m (i + 1)) (by omega) (by omega) t2 hq' ?_
        exact fun q S3 s3 => ih (i + 1) (by omega) q S3 s3
    exact out (bN σ.1) 0 (by omega) (fun S2 t2 => hq S2 (f1.tr t2.fm) (t2.mi h1 wf)) S1 (Te.rf S1)
