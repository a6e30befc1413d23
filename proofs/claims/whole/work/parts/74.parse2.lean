/-! CIRCUIT: the class reads gates -/
theorem Sx.l41 {S S' : st_S} (h : Sx [41] S S') : Sx [41, 43, 44] S S' := h.mono (by simp)
theorem Bo.k41 {S S' : st_S} {B : bd} (h : Bo S 43 B) (hs : Sx [41] S S') : Bo S' 43 B := h.kept (hs 43 (by simp)) (hs 44 (by simp))
theorem k43 : kd 43 = 0 := rfl
theorem d_v {S : st_S} {A : Prop} : sv_O (hp S) 43 0 A = A := hv_O k43 (by decide)
theorem TC.k43 {S S' : st_S} {T : Nat} {c : Nat → Nat} {p : Nat} (h : TC S T c p) (hs : Sx [43, 44] S S') : TC S' T c p := h.kept (hs 41 (by simp)) (hs 42 (by simp))
theorem bs_z {p : Nat → Bool} {n : Nat} (h : ∀ d, d < n → p d = false) : bs p n = 0 := (bs_cong h).trans (bs_none n)
theorem c_gate {S : st_S} {T : Nat} {c : Nat → Nat} {p : Nat} {B : bd} (h : TC S T c p) (hl : Ltr T c) (hpT : p ≤ T) (hB : Bo S 43 B) (hW : 2 ≤ bW B ∧ bW B ≤ 6) (hN : bN B < 16) {Q : aw_R}
    (hq0 : ∀ e, rgt T c (bW B) p = .inl e → ∀ S2, Sx [41, 43, 44] S S2 → TC S2 T c e → Q (some (.int 0)) (hp S2))
    (hq1 : ∀ g p', rgt T c (bW B) p = .inr (g, p') → p' ≤ T → ∀ S2, Sx [41, 43, 44] S S2 → TC S2 T c p' → Bo S2 43 (bW B, bN B + 1, bB B, bP B, bD B, gput (bG B) (bN B) g) → Q (some (.int 1)) (hp S2)) : tr_X5_readGate [.ref 41, .ref 43] (hp S) Q := by
  rw [tq_X5_readGate]
  intro K62 r62
  have hT := hl.1
  have hs := skip_le (c := c) hpT
  unfold sm_X5_readGate_0
  rw [tc_v]
  refine c_skip h hl hpT (fun S1 s1 t1 => ?_)
  simp only [sr_V]
  rw [hq_I (k := 2) k41 rfl, t1.2.1, hq_I (k := 1) k41 rfl, t1.1]
  have bad : ∀ x, kno (chr T c (skip T c p)) = none → x = (-1 : Int32) → sm_X5_readGate_31 K62 Q 41 43 x (hp S1) := by
    intro x hk hx
    unfold sm_X5_readGate_31
    rw [hx, if_neg (by decide)]
    exact hq0 _ (by unfold rgt; rw [hk]) S1 s1.l41 t1
  by_cases he : T ≤ skip T c p
  · rw [if_pos (nI_le he (by omega))]
    exact bad _ (by unfold chr; rw [if_neg (by omega)]; rfl) rfl
  · have hlt : skip T c p < T := by omega
    have hcp := hl.2 _ hlt
    have ec : chr T c (skip T c p) = c (skip T c p) := if_pos hlt
    rw [if_neg (nI_ge hlt (by omega)), tc_r, hq_I (k := 2) k41 rfl, t1.2.1, tc_l t1 hl hlt, e_kindNamed (by omega)]
    simp only [sr_I]
    cases hk : kno (c (skip T c p)) with
    | none => exact bad _ (by rw [ec]; exact hk) rfl
    | some k =>
      have hk5 := kno_lt hk
      have hres : rgt T c (bW B) p = match rwr T c (bW B) (gwo k) 0 (fun _ => 0) (skip T c p + 1) with
        | .inl e => .inl e
        | .inr (ws, p') => if chr T c (skip T c p') = 33 then .inr ((k, ws 0, ws 1, ws 2, 1), skip T c p' + 1) else .inr ((k, ws 0, ws 1, ws 2, 0), skip T c p') := by
        unfold rgt
        rw [ec, hk]
        all_goals rfl
      have g3 : gwo k ≤ 3 := (by decide +kernel : ∀ k, k < 5 → gwo k ≤ 3) k hk5
      show sm_X5_readGate_31 K62 Q 41 43 (nI k) (hp S1)
      unfold sm_X5_readGate_31
      rw [if_pos (nI_pos' (by omega)), hq_I (k := 2) k41 rfl, t1.2.1, nI_1, hq_P (k := 2) k41 rfl, e_CwiresOf, gwo_c k hk5]
      simp only [sr_I]
      have main : ∀ m j ws pp S2, j + m = gwo k → pp ≤ T → Sx [41] S S2 → TC S2 T c pp → Wok (bW B) j ws → rwr T c (bW B) m j ws pp = rwr T c (bW B) (gwo k) 0 (fun _ => 0) (skip T c p + 1) → K62 41 43 (nI (gwo k)) (nI (bs (fun d => decide (∃ i, i < j ∧ ws i = d)) 6)) (nI (gpk (k, ws 0, ws 1, ws 2, 0))) (nI j) (hp S2) := by
        intro m
        induction m with
        | zero =>
          intro j ws pp S2 ej hpp s2 t2 w er
          have er : (Sum.inr (ws, pp) : Sum Nat ((Nat → Nat) × Nat)) = rwr T c (bW B) (gwo k) 0 (fun _ => 0) (skip T c p + 1) := er
          have ej : j = gwo k := ej
          subst ej
          rw [← er] at hres
          have hB2 := hB.k41 s2
          apply r62
          unfold sm_X5_readGate_62
          rw [if_pos (nI_le (by omega) (by omega)), tc_v, show (33 : Int32) = nI 33 from rfl]
          have gg := w.ok hW.1 hk5 (d := 0) (by omega)
          refine c_takes t2 hl hpp (by omega) (by omega) (fun hc hlt2 S3 s3 t3 => ?_) (fun hc S3 s3 t3 => ?_)
          · have hres : rgt T c (bW B) p = if chr T c (skip T c pp) = 33 then .inr ((k, ws 0, ws 1, ws 2, 1), skip T c pp + 1) else .inr ((k, ws 0, ws 1, ws 2, 0), skip T c pp) := hres
            rw [if_pos hc] at hres
            simp only [sr_I]
            rw [if_neg (by decide), e_killed, gkill hW.2 gg]
            simp only [sr_I]
            rw [d_v]
            refine i_add k43 (hB2.k41 s3) hN (fun S4 s4 b4 => ?_)
            simp only [sr_V]
            exact hq1 _ _ hres (by omega) S4 (((s2.tr s3).l41).tr (s4.mono (by simp))) (t3.k43 s4) b4
          · have hres : rgt T c (bW B) p = if chr T c (skip T c pp) = 33 then .inr ((k, ws 0, ws 1, ws 2, 1), skip T c pp + 1) else .inr ((k, ws 0, ws 1, ws 2, 0), skip T c pp) := hres
            rw [if_neg hc] at hres
            simp only [sr_I]
            rw [if_pos (by decide), d_v]
            refine i_add k43 (hB2.k41 s3) hN (fun S4 s4 b4 => ?_)
            simp only [sr_V]
            exact hq1 _ _ hres (skip_le hpp).2 S4 (((s2.tr s3).l41).tr (s4.mono (by simp))) (t3.k43 s4) b4
        | succ m ih =>
          intro j ws pp S2 ej hpp s2 t2 w er
          apply r62
          unfold sm_X5_readGate_62
          rw [if_neg (nI_ge (by omega) (by omega)), tc_v]
          have hs2 := skip_le (c := c) hpp
          refine c_skip t2 hl hpp (fun S3 s3 t3 => ?_)
          simp only [sr_V]
          rw [tc_v]
          have s23 := s2.tr s3
          have hB3 := hB.k41 s23
          have er' : (if isd T c (skip T c pp) ∧ c (skip T c pp) - 48 < bW B ∧ (∀ i, i < j → ws i ≠ c (skip T c pp) - 48) then rwr T c (bW B) m (j + 1) (fun i => if i = j then c (skip T c pp) - 48 else ws i) (skip T c pp + 1) else .inl (skip T c pp)) = rwr T c (bW B) (gwo k) 0 (fun _ => 0) (skip T c p + 1) := er
          have fail : ¬ (isd T c (skip T c pp) ∧ c (skip T c pp) - 48 < bW B ∧ (∀ i, i < j → ws i ≠ c (skip T c pp) - 48)) → Q (some (.int 0)) (hp S3) := fun hn => by
            rw [if_neg hn] at er'
            rw [← er'] at hres
            exact hq0 _ hres S3 s23.l41 t3
          refine c_digit t3 hl hs2.2 (fun hd => ?_) (fun hd => ?_)
          · simp only [sr_I]
            have hc9 : c (skip T c pp) - 48 < 10 := by omega
            rw [if_neg (nI_pos (by omega)), hq_I (k := 0) k43 rfl, hB3.1]
            by_cases hdW : c (skip T c pp) - 48 < bW B
            · rw [if_neg (nI_ge hdW (by omega))]
              have hmk := bs_lt (fun d => decide (∃ i, i < j ∧ ws i = d)) 6
              rw [shr_bit (by omega) (by omega)]
              have hbit := bs_bit (fun d => decide (∃ i, i < j ∧ ws i = d)) (c (skip T c pp) - 48) 6
              rw [Nat.testBit_eq_decide_div_mod_eq] at hbit
              by_cases htk : ∃ i, i < j ∧ ws i = c (skip T c pp) - 48
              · have hb1 : bs (fun d => decide (∃ i, i < j ∧ ws i = d)) 6 / 2 ^ (c (skip T c pp) - 48) % 2 = 1 := by
                  simpa [htk, show c (skip T c pp) - 48 < 6 by omega] using hbit
                rw [hb1, if_neg q10]
                obtain ⟨i, hi, hwi⟩ := htk
                exact fail (fun q => q.2.2 i hi hwi)
              · have hb0 : bs (fun d => decide (∃ i, i < j ∧ ws i = d)) 6 / 2 ^ (c (skip T c pp) - 48) % 2 = 0 := by
                  have : ¬ bs (fun d => decide (∃ i, i < j ∧ ws i = d)) 6 / 2 ^ (c (skip T c pp) - 48) % 2 = 1 := by
                    simpa [htk] using hbit
                  omega
                have hcond : isd T c (skip T c pp) ∧ c (skip T c pp) - 48 < bW B ∧ (∀ i, i < j → ws i ≠ c (skip T c pp) - 48) := ⟨hd, hdW, fun i hi q => htk ⟨i, hi, q⟩⟩
                rw [if_pos hcond] at er'
                rw [hb0, if_pos p00, hq_I (k := 2) k41 rfl, t3.2.1, nI_1, hq_P (k := 2) k41 rfl, shl1 _ (by omega), or_bs (show c (skip T c pp) - 48 < 6 by omega)]
                have w' := w.step hdW hcond.2.2
                generalize c (skip T c pp) - 48 = d at *
                have emask : (fun d' => decide (∃ i, i < j ∧ ws i = d') || d' == d) = fun d' => decide (∃ i, i < j + 1 ∧ (if i = j then d else ws i) = d') := by
                  funext d'
                  rw [Bool.eq_iff_iff, Bool.or_eq_true, decide_eq_true_iff, decide_eq_true_iff, beq_iff_eq]
                  constructor
                  · rintro (⟨i, hi, e⟩ | e)
                    · exact ⟨i, by omega, by rw [if_neg (by omega)]; exact e⟩
                    · exact ⟨j, by omega, by rw [if_pos rfl]; exact e.symm⟩
                  · rintro ⟨i, hi, e⟩
                    by_cases hij : i = j
                    · rw [if_pos hij] at e
                      exact Or.inr e.symm
                    · rw [if_neg hij] at e
                      exact Or.inl ⟨i, by omega, e⟩
                have next := ih (j + 1) _ (skip T c pp + 1) _ (by omega) (by omega) (s23.tr (Sx.I (k := 2) (v := nI (skip T c pp + 1)) (by simp))) (t3.at (skip T c pp + 1)) w' er'
                rw [← emask] at next
                have wz := w.2.1
                rcases (show j = 0 ∨ j = 1 ∨ j = 2 by omega) with rfl | rfl | rfl
                · rw [if_neg (fun q => q rfl), if_pos (show ¬ nI 0 = 1 by decide)]
                  unfold sm_X5_readGate_149
                  rw [if_pos (show ¬ nI 0 = 2 by decide), e_pack, pk0 d (by omega)]
                  simp only [sr_I]
                  rw [wz 0 (by omega), wz 1 (by omega), wz 2 (by omega), or_s (by unfold gpk; dsimp only; omega), nI_1]
                  rw [show gpk (k, (if 0 = 0 then d else ws 0), (if 1 = 0 then d else ws 1), (if 2 = 0 then d else ws 2), 0) = gpk (k, 0, 0, 0, 0) + 2 ^ 3 * d by
                    rw [if_pos rfl, if_neg (by decide), if_neg (by decide), wz 1 (by omega), wz 2 (by omega)]; unfold gpk; dsimp only; omega] at next
                  exact next
                · rw [if_pos (show ¬ nI 1 = 0 by decide), if_neg (fun q => q rfl)]
                  unfold sm_X5_readGate_149
                  rw [if_pos (show ¬ nI 1 = 2 by decide), e_pack, pk1 d (by omega)]
                  simp only [sr_I]
                  have w0 := w.1 0 (by omega)
                  rw [wz 1 (by omega), wz 2 (by omega), or_s (by unfold gpk; dsimp only; omega), nI_1]
                  rw [show gpk (k, (if 0 = 1 then d else ws 0), (if 1 = 1 then d else ws 1), (if 2 = 1 then d else ws 2), 0) = gpk (k, ws 0, 0, 0, 0) + 2 ^ 6 * d by
                    rw [if_neg (by decide), if_pos rfl, if_neg (by decide), wz 2 (by omega)]; unfold gpk; dsimp only; omega] at next
                  exact next
                · rw [if_pos (show ¬ nI 2 = 0 by decide), if_pos (show ¬ nI 2 = 1 by decide)]
                  unfold sm_X5_readGate_149
                  rw [if_neg (fun q => q rfl), e_pack, pk2 d (by omega)]
                  simp only [sr_I]
                  have w0 := w.1 0 (by omega)
                  have w1 := w.1 1 (by omega)
                  rw [wz 2 (by omega), or_s (by unfold gpk; dsimp only; omega), nI_1]
                  rw [show gpk (k, (if 0 = 2 then d else ws 0), (if 1 = 2 then d else ws 1), (if 2 = 2 then d else ws 2), 0) = gpk (k, ws 0, ws 1, 0, 0) + 2 ^ 9 * d by
                    rw [if_neg (by decide), if_neg (by decide), if_pos rfl]; unfold gpk; dsimp only; omega] at next
                  exact next
            · rw [if_pos (nI_le (by omega) (by omega))]
              exact fail (fun q => hdW q.2.1)
          · simp only [sr_I]
            rw [if_pos (by decide)]
            exact fail (fun q => hd q.1)
      have := main (gwo k) 0 (fun _ => 0) (skip T c p + 1) _ (by omega) (by omega) (s1.tr (Sx.I (k := 2) (v := nI (skip T c p + 1)) (by simp))) (t1.at (skip T c p + 1)) ⟨fun j hj => absurd hj (Nat.not_lt_zero j), fun _ _ => rfl, fun i j _ hj => absurd hj (Nat.not_lt_zero j)⟩ rfl
      rw [bs_z (fun d _ => by simp), show gpk (k, 0, 0, 0, 0) = k by unfold gpk; dsimp only; omega] at this
      exact this
theorem c_gates {S : st_S} {T : Nat} {c : Nat → Nat} {p W b D : Nat} (h : TC S T c p) (hl : Ltr T c) (hpT : p ≤ T) (hB : Bo S 43 (W, 0, b, 0, D, g00)) (hW : 2 ≤ W ∧ W ≤ 6) {Q : aw_R}
    (hq0 : ∀ e, prg T c W p = .inl e → ∀ S2, Sx [41, 43, 44] S S2 → TC S2 T c e → Q (some (.int 0)) (hp S2))
    (hq1 : ∀ n γ, prg T c W p = .inr (n, γ) → ∀ S2, Sx [41, 43, 44] S S2 → Bo S2 43 (W, n, b, 0, D, γ) → Q (some (.int 1)) (hp S2)) : tr_X5_readGates [.ref 41, .ref 43] (hp S) Q := by
  rw [tq_X5_readGates]
  intro K11 r11
  have hT := hl.1
  have hs := skip_le (c := c) hpT
  unfold sm_X5_readGates_0
  rw [tc_v]
  refine c_end h hl hpT (fun S1 s1 t1 => ?_)
  simp only [sr_I]
  have main : ∀ m n γ pp S2, n + m = 16 → pp ≤ T → Sx [41, 43, 44] S S2 → TC S2 T c pp → Bo S2 43 (W, n, b, 0, D, γ) → rgs T c W m n γ pp = prg T c W p → K11 41 43 (nI n) (hp S2) := by
    intro m
    induction m with
    | zero =>
      intro n γ pp S2 en hpp s2 t2 b2 er
      apply r11
      unfold sm_X5_readGates_11
      rw [if_pos (show (16 : Int32) ≤ nI n from nI_le (a := 16) (by omega) (by omega))]
      exact hq0 pp er.symm S2 s2 t2
    | succ m ih =>
      intro n γ pp S2 en hpp s2 t2 b2 er
      apply r11
      unfold sm_X5_readGates_11
      rw [if_neg (show ¬ (16 : Int32) ≤ nI n from nI_ge (b := 16) (by omega) (by omega)), tc_v]
      have er' : (match rgt T c W pp with
        | .inl e => .inl e
        | .inr (g, p') => if T ≤ skip T c p' then .inr (n + 1, gput γ n g) else if n + 1 = 16 ∨ ¬ chr T c (skip T c p') = 44 then .inl (skip T c p') else rgs T c W m (n + 1) (gput γ n g) (skip T c p' + 1)) = prg T c W p := er
      refine c_gate t2 hl hpp b2 hW (show n < 16 by omega) (fun e he S3 s3 t3 => ?_) (fun g p' he hp' S3 s3 t3 b3 => ?_)
      · simp only [sr_I]
        have he : rgt T c W pp = .inl e := he
        rw [he] at er'
        rw [if_neg (by decide)]
        exact hq0 e er'.symm S3 (s2.tr s3) t3
      · simp only [sr_I]
        have he : rgt T c W pp = .inr (g, p') := he
        have b3 : Bo S3 43 (W, n + 1, b, 0, D, gput γ n g) := b3
        rw [he] at er'
        have er' : (if T ≤ skip T c p' then .inr (n + 1, gput γ n g) else if n + 1 = 16 ∨ ¬ chr T c (skip T c p') = 44 then .inl (skip T c p') else rgs T c W m (n + 1) (gput γ n g) (skip T c p' + 1)) = prg T c W p := er'
        rw [if_pos (by decide), tc_v]
        have hs2 := skip_le (c := c) hp'
        refine c_end t3 hl hp' (fun S4 s4 t4 => ?_)
        simp only [sr_I]
        have s24 := (s2.tr s3).tr s4.l41
        have b4 := b3.k41 s4
        by_cases hend : T ≤ skip T c p'
        · rw [if_pos hend] at er'
          rw [if_pos hend, if_neg (by decide)]
          exact hq1 _ _ er'.symm S4 s24 b4
        · rw [if_neg hend] at er'
          rw [if_neg hend, if_pos (by decide), hq_I (k := 1) k43 rfl, show S4.1 43 1 = nI (n + 1) from b4.2.1]
          by_cases h16 : n + 1 = 16
          · rw [if_pos (Or.inl h16)] at er'
            rw [if_pos (show (16 : Int32) ≤ nI (n + 1) from nI_le (a := 16) (by omega) (by omega))]
            exact hq0 _ er'.symm S4 s24 t4
          · rw [if_neg (show ¬ (16 : Int32) ≤ nI (n + 1) from nI_ge (b := 16) (by omega) (by omega)), tc_v, show (44 : Int32) = nI 44 from rfl]
            refine c_takes t4 hl hs2.2 (by omega) (by omega) (fun hc hlt S5 s5 t5 => ?_) (fun hc S5 s5 t5 => ?_)
            · rw [skip_2] at hc hlt t5
              rw [if_neg (fun q => q.elim h16 (fun z => z hc))] at er'
              simp only [sr_I]
              rw [if_pos (by decide), nI_1]
              exact ih (n + 1) _ _ S5 (by omega) (by omega) (s24.tr s5.l41) t5 (b4.k41 s5) er'
            · rw [skip_2] at hc t5
              rw [if_pos (Or.inr hc)] at er'
              simp only [sr_I]
              rw [if_neg (by decide)]
              exact hq0 _ er'.symm S5 (s24.tr s5.l41) t5
  by_cases hend : T ≤ skip T c p
  · rw [if_pos hend, if_neg (by decide)]
    exact hq1 0 g00 (by unfold prg; rw [if_pos hend]) S1 s1.l41 (hB.k41 s1)
  · rw [if_neg hend, if_pos (by decide)]
    exact main 16 0 g00 (skip T c p) S1 (by omega) hs.2 s1.l41 t1 (hB.k41 s1) (by unfold prg; rw [if_neg hend])
