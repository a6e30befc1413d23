/-! CIRCUIT: the reference, whole -/
theorem m_wires {S : st_S} {T : Nat} {c : Nat → Nat} (h : MC S T c 0 none) (hl : Ltr T c) (h10 : S.1 58 10 = nI 0) {Q : aw_R}
    (hq0 : ∀ e, prs T c = .inl e → ∀ v S2 p', Mf [8, 9, 10] [] S S2 → MC S2 T c p' (some e) → Q (some (.int v)) (hp S2))
    (hq1 : ∀ W b p', 2 ≤ W ∧ W ≤ 6 → p' ≤ T → (∀ r, (match prg T c W p' with
      | .inl e => .inl e
      | .inr (n, γ) => .inr (W, b, n, γ)) = r → prs T c = r) → ∀ S2, Mf [8, 9, 10] [] S S2 → MC S2 T c p' none → S2.1 58 10 = nI b → Q (some (.int (nI W))) (hp S2)) : tr_X7_readWires [.ref 58] (hp S) Q := by
  rw [tq_X7_readWires]
  unfold sm_X7_readWires_0
  have hT := hl.1
  have hs := skip_le (T := T) (c := c) (p := 0) (by omega)
  have fail : ¬ (isd T c (skip T c 0) ∧ 2 ≤ c (skip T c 0) - 48 ∧ c (skip T c 0) - 48 ≤ 6) → prs T c = .inl (skip T c 0) := fun q => by
    unfold prs
    rw [if_neg q]
  have good : (isd T c (skip T c 0) ∧ 2 ≤ c (skip T c 0) - 48 ∧ c (skip T c 0) - 48 ≤ 6) → ∀ r, (match pbt T c (c (skip T c 0) - 48) (skip T c 0 + 1) with
    | .inl e => .inl e
    | .inr (b, p) => if chr T c (skip T c p) = 58 then (match prg T c (c (skip T c 0) - 48) (skip T c p + 1) with
      | .inl e => .inl e
      | .inr (n, γ) => .inr (c (skip T c 0) - 48, b, n, γ)) else .inl (skip T c p)) = r → prs T c = r := fun q r e => by
    unfold prs
    rw [if_pos q]
    exact e
  have m9 : ∀ {S2 S3 : st_S} {ks : List Nat}, Mf ks [] S2 S3 → (∀ k ∈ ks, k ∈ [8, 9, 10]) → Mf [8, 9, 10] [] S2 S3 := fun q z => q.mono z (by simp)
  rw [m_v, show (2 : Int32) = nI 2 from rfl, show (6 : Int32) = nI 6 from rfl]
  refine m_digit h hl (by omega) (by omega) (by omega) (fun hd h2 h6 S1 s1 t1 => ?_) (fun hd v S1 s1 t1 => ?_)
  · simp only [sr_I]
    rw [m_v, m_fine1 t1]
    simp only [sr_I]
    rw [if_neg (by decide), m_v]
    have good := good ⟨hd, h2, h6⟩
    generalize skip T c 0 = q at *
    have hq := hd.1
    generalize c q - 48 = W at *
    have hs1 := skip_le (T := T) (c := c) (p := q + 1) (by omega)
    have w58 : (58 : Int32) = nI 58 := rfl
    have tail : ∀ b pp S2, pp ≤ T → pbt T c W (q + 1) = .inr (b, pp) → Mf [8, 9, 10] [] S S2 → MC S2 T c pp none → S2.1 58 10 = nI b → sm_X7_readWires_41 Q 58 (nI W) (hp S2) := by
      intro b pp S2 hpp eb s2 t2 z2
      rw [eb] at good
      have good : ∀ r, (if chr T c (skip T c pp) = 58 then (match prg T c W (skip T c pp + 1) with
        | .inl e => .inl e
        | .inr (n, γ) => .inr (W, b, n, γ)) else .inl (skip T c pp)) = r → prs T c = r := good
      unfold sm_X7_readWires_41
      rw [m_v, m_fine1 t2]
      simp only [sr_I]
      rw [if_neg (by decide), m_v, w58]
      have hsp := skip_le (c := c) hpp
      refine m_need t2 hl hpp (by omega) (fun hc S3 s3 t3 => ?_) (fun hc S3 s3 t3 => ?_)
      · simp only [sr_V]
        rw [if_pos hc] at good
        have hlt : skip T c pp < T := by
          apply Decidable.byContradiction
          intro z
          rw [show chr T c (skip T c pp) = 0 from if_neg z] at hc
          omega
        exact hq1 W b _ ⟨h2, h6⟩ (by omega) good S3 (s2.tr (m9 s3 (by simp))) t3 (by rw [s3.1 58 10 (by simp)]; exact z2)
      · simp only [sr_V]
        rw [if_neg hc] at good
        exact hq0 _ (good _ rfl) _ S3 _ (s2.tr (m9 s3 (by simp))) t3
    have s1' := m9 s1 (by simp)
    refine m_here t1 hl (by omega) (fun S2 s2 t2 => ?_)
    simp only [sr_I]
    have s2' := s1'.tr (m9 s2 (by simp))
    have z2 : S2.1 58 10 = nI 0 := by rw [s2.1 58 10 (by simp), s1.1 58 10 (by simp)]; exact h10
    have hch := chr_le hl (skip T c (q + 1))
    have e61 : nI (chr T c (skip T c (q + 1))) = 61 ↔ chr T c (skip T c (q + 1)) = 61 := nI_eq (b := 61) (by omega) (by omega)
    have hpb := pbt_st T c W (q + 1)
    by_cases h61 : chr T c (skip T c (q + 1)) = 61
    · rw [if_pos h61] at hpb
      have hlt : skip T c (q + 1) < T := by
        apply Decidable.byContradiction
        intro z
        rw [show chr T c (skip T c (q + 1)) = 0 from if_neg z] at h61
        omega
      rw [if_neg (fun z => z (e61.mpr h61)), hq_I (k := 8) k58 rfl, t2.2.1, nI_1, hq_P (k := 8) k58 rfl, m_v, shl1 _ (by omega)]
      refine m_state (t2.at _) hl (by omega) h6 (fun e he S3 p' hp' s3 t3 => ?_) (fun b p' he hp' S3 s3 t3 z3 => ?_)
      · simp only [sr_V]
        rw [hpb, he] at good
        unfold sm_X7_readWires_41
        rw [m_v, m_fine0 t3]
        simp only [sr_I]
        rw [if_pos (by decide)]
        exact hq0 _ (good _ rfl) _ S3 p' ((s2'.tr (Mf.I (by simp))).tr s3) t3
      · simp only [sr_V]
        exact tail b p' S3 hp' (by rw [hpb, he]) ((s2'.tr (Mf.I (by simp))).tr s3) t3 z3
    · rw [if_neg h61] at hpb
      rw [if_pos (fun z => h61 (e61.mp z))]
      exact tail 0 _ S2 hs1.2 hpb s2' t2 z2
  · simp only [sr_I]
    rw [m_v, m_fine0 t1]
    simp only [sr_I]
    rw [if_pos (by decide)]
    unfold sm_X7_readWires_41
    rw [m_v, m_fine0 t1]
    simp only [sr_I]
    rw [if_pos (by decide)]
    exact hq0 _ (fail hd) _ S1 _ (m9 s1 (by simp)) t1
theorem i_Mclear2 {S : st_S} {σ : sg} (h : MI S σ) (wf : Wf σ) {w : Nat} {Q : aw_R} (hq : ∀ f, MI (sF S 59 f) ((w, 0, 0, 0, bD σ.1, bG σ.1), [], σ.2.2) → Q none (hp (sF S 59 f))) : tr_X7_clear [.ref 58, .int (nI w)] (hp S) Q := by
  rw [tq_X7_clear]
  intro K9 r9
  obtain ⟨a0, a1, a2, a3, a4, ag⟩ := h.1
  have main : ∀ r k, k + r = 766 → K9 58 (nI w) (nI (bD σ.1)) (nI k) (hp (sF S 59 (wz (S.2.1 59) k))) := by
    intro r
    induction r with
    | zero =>
      intro k e
      apply r9
      unfold sm_X7_clear_9
      rw [if_pos (show (766 : Int32) ≤ nI k from nI_le (a := 766) (by omega) (by omega)), m_0, show (ss_I (hp _) 59 0 _ _) = _ from m_wsn (n := 0) (by omega), sA_F, sF_F, m_0, show (ss_I (hp _) 59 4 _ _) = _ from m_wsn (n := 4) (by omega), sA_F, sF_F, sF_at, sF_at, show k = 766 by omega]
      refine hq _ (h.w wf (fun k h1 _ => ?_) ⟨?_, ?_, ?_, ?_, ?_, fun g hg => absurd hg (Nat.not_lt_zero g)⟩ ⟨by simp, ?_, fun j B hj => by simp at hj⟩)
      · rw [pk_un (by omega), pk_un (by omega)]
        exact if_neg (by omega)
      · rw [pk_un (by omega), pk_us]
      · rw [pk_un (by omega), pk_un (by omega)]
        rfl
      · rw [pk_un (by omega), pk_un (by omega)]
        rfl
      · rw [pk_un (by omega), pk_un (by omega)]
        rfl
      · rw [Nat.zero_add, pk_us]
      · rw [pk_un (by omega), pk_un (by omega)]
        rfl
    | succ r ih =>
      intro k e
      apply r9
      unfold sm_X7_clear_9
      rw [if_neg (show ¬ (766 : Int32) ≤ nI k from nI_ge (b := 766) (by omega) (by omega)), m_0, m_wsn (by omega), sA_F, sF_F, sF_at, nI_1]
      have e1 : upd (wz (S.2.1 59) k) k 0 = wz (S.2.1 59) (k + 1) := by
        funext j
        by_cases hj : j = k
        · subst hj
          rw [pk_us]
          exact (if_pos (by omega)).symm
        · rw [pk_un hj]
          unfold wz
          by_cases h1 : j < k
          · rw [if_pos h1, if_pos (by omega)]
          · rw [if_neg h1, if_neg (by omega)]
      rw [e1]
      exact ih (k + 1) (by omega)
  have h0 : sF S 59 (wz (S.2.1 59) 0) = S := by
    have : wz (S.2.1 59) 0 = S.2.1 59 := by
      funext j
      exact if_neg (by omega)
    rw [this, sF_self]
  unfold sm_X7_clear_0
  rw [m_0, show (sa_I (hp S) 59 4 _) = _ from m_wn (n := 4) (by omega), show S.2.1 59 4 = nI (bD σ.1) from a4]
  have := main 766 0 (by omega)
  rw [h0] at this
  exact this
theorem i_Mput2 {S : st_S} {σ : sg} (h : MI S σ) (wf : Wf σ) {g : gt} (hn : bN σ.1 < 16) {Q : aw_R} (hq : ∀ f, MI (sF S 59 f) (adB σ.1 g, [], σ.2.2) → Q (some (.int (nI (bN σ.1)))) (hp (sF S 59 f))) : tr_X7_put [.ref 58, .int (nI g.1), .int (nI g.2.1), .int (nI g.2.2.1), .int (nI g.2.2.2.1), .int (nI g.2.2.2.2)] (hp S) Q := by
  rw [tq_X7_put]
  unfold sm_X7_put_0
  obtain ⟨a0, a1, a2, a3, a4, ag⟩ := id h.1
  have a1 : S.2.1 59 1 = nI (bN σ.1) := a1
  have ix : (5 : Int32) + 5 * nI (bN σ.1) = nI (0 + 5 + 5 * bN σ.1) := gix 0 (bN σ.1)
  have ixk : ∀ k : Nat, nI (0 + 5 + 5 * bN σ.1) + nI k = nI (0 + 5 + 5 * bN σ.1 + k) := fun k => nI_add _ _
  rw [m_0, show (sa_I (hp S) 59 1 _) = _ from m_wn (n := 1) (by omega), a1, ix, m_0, m_wsn (by omega), sA_F, m_0, show nI (0 + 5 + 5 * bN σ.1) + 1 = nI (0 + 5 + 5 * bN σ.1 + 1) from ixk 1, m_wsn (by omega), sA_F, sF_F, m_0, show nI (0 + 5 + 5 * bN σ.1) + 2 = nI (0 + 5 + 5 * bN σ.1 + 2) from ixk 2, m_wsn (by omega), sA_F, sF_F, m_0, show nI (0 + 5 + 5 * bN σ.1) + 3 = nI (0 + 5 + 5 * bN σ.1 + 3) from ixk 3, m_wsn (by omega), sA_F, sF_F, m_0, show nI (0 + 5 + 5 * bN σ.1) + 4 = nI (0 + 5 + 5 * bN σ.1 + 4) from ixk 4, m_wsn (by omega), sA_F, sF_F, m_0, show (sa_I (hp _) 59 1 _) = _ from m_wn (n := 1) (by omega), show (ss_I (hp _) 59 1 _ _) = _ from m_wsn (n := 1) (by omega), sA_F, sF_F, m_0, show (ss_I (hp _) 59 765 _ _) = _ from m_wsn (n := 765) (by omega), sA_F, sF_F]
  simp only [sF_at]
  generalize he : (0 + 5 + 5 * bN σ.1) = e0
  have e1 : upd (upd (upd (upd (upd (S.2.1 59) e0 (nI g.1)) (e0 + 1) (nI g.2.1)) (e0 + 2) (nI g.2.2.1)) (e0 + 3) (nI g.2.2.2.1)) (e0 + 4) (nI g.2.2.2.2) 1 = nI (bN σ.1) := by
    rw [pk_un (by omega), pk_un (by omega), pk_un (by omega), pk_un (by omega), pk_un (by omega)]
    exact a1
  rw [e1, nI_1]
  generalize hf : upd (upd (upd (upd (upd (S.2.1 59) e0 (nI g.1)) (e0 + 1) (nI g.2.1)) (e0 + 2) (nI g.2.2.1)) (e0 + 3) (nI g.2.2.2.1)) (e0 + 4) (nI g.2.2.2.2) = f
  have fo : ∀ k, ¬ (e0 ≤ k ∧ k < e0 + 5) → f k = S.2.1 59 k := fun k hk => by
    rw [← hf, pk_un (by omega), pk_un (by omega), pk_un (by omega), pk_un (by omega), pk_un (by omega)]
  refine hq _ (h.w wf (fun k h1 _ => ?_) ⟨?_, ?_, ?_, ?_, ?_, fun j hj => ?_⟩ ⟨by simp, by rw [Nat.zero_add, pk_us]; rfl, fun j B hj => by simp at hj⟩)
  · rw [pk_un (by omega), pk_un (by omega), fo k (by omega)]
  · rw [pk_un (by omega), pk_un (by omega), fo _ (by omega)]; exact a0
  · rw [pk_un (by omega), Nat.zero_add, pk_us]; rfl
  · rw [pk_un (by omega), pk_un (by omega), fo _ (by omega)]; exact a2
  · rw [pk_un (by omega), pk_un (by omega), fo _ (by omega)]; exact a3
  · rw [pk_un (by omega), pk_un (by omega), fo _ (by omega)]; exact a4
  · have hj : j < bN σ.1 + 1 := hj
    have e : bG (adB σ.1 g) j = if j = bN σ.1 then g else bG σ.1 j := rfl
    rw [e]
    by_cases hjn : j = bN σ.1
    · rw [if_pos hjn]
      have hi : 0 + 5 + 5 * j = e0 := by rw [hjn]; exact he
      rw [hi, ← hf]
      refine ⟨?_, ?_, ?_, ?_, ?_⟩
      · rw [pk_un (by omega), pk_un (by omega), pk_un (by omega), pk_un (by omega), pk_un (by omega), pk_un (by omega), pk_us]
      · rw [pk_un (by omega), pk_un (by omega), pk_un (by omega), pk_un (by omega), pk_un (by omega), pk_us]
      · rw [pk_un (by omega), pk_un (by omega), pk_un (by omega), pk_un (by omega), pk_us]
      · rw [pk_un (by omega), pk_un (by omega), pk_un (by omega), pk_us]
      · rw [pk_un (by omega), pk_un (by omega), pk_us]
    · rw [if_neg hjn]
      obtain ⟨b0, b1, b2, b3, b4⟩ := ag j (by omega)
      exact ⟨by rw [pk_un (by omega), pk_un (by omega), fo _ (by omega)]; exact b0, by rw [pk_un (by omega), pk_un (by omega), fo _ (by omega)]; exact b1, by rw [pk_un (by omega), pk_un (by omega), fo _ (by omega)]; exact b2, by rw [pk_un (by omega), pk_un (by omega), fo _ (by omega)]; exact b3, by rw [pk_un (by omega), pk_un (by omega), fo _ (by omega)]; exact b4⟩
theorem MC.z {S : st_S} {T : Nat} {c : Nat → Nat} {p : Nat} {e : Option Nat} (h : MC S T c p e) : MC (sI S 58 3 0) 0 c p e := ⟨sI_at _ _ _ _, by rw [sI_ne _ _ (by omega)]; exact h.2.1, by rw [sI_ne _ _ (by omega)]; exact h.2.2.1, h.2.2.2.1, fun j hj => absurd hj (Nat.not_lt_zero j)⟩
theorem m_gates0 {S : st_S} {T : Nat} {c : Nat → Nat} {p e : Nat} (h : MC S T c p (some e)) {v : Int32} {Q : aw_R} (hq : Q none (hp S)) : tr_X7_readGates [.ref 58, .int v] (hp S) Q := by
  rw [tq_X7_readGates]
  intro K20 r20
  unfold sm_X7_readGates_0
  rw [m_v, m_fine0 h]
  simp only [sr_I]
  rw [if_pos (by decide)]
  apply r20
  unfold sm_X7_readGates_20
  rw [if_pos (by decide)]
  exact hq
theorem nrm_s (γ : Nat → gt) (k : Nat) : gput (nrm γ k) k (γ k) = nrm γ (k + 1) := by
  funext j
  show (if j = k then γ k else if j < k then γ j else g00 j) = if j < k + 1 then γ j else g00 j
  by_cases h : j = k
  · rw [if_pos h, if_pos (by omega), h]
  · rw [if_neg h]
    by_cases h2 : j < k
    · rw [if_pos h2, if_pos (by omega)]
    · rw [if_neg h2, if_neg (by omega)]
theorem nrm_0 (γ : Nat → gt) : nrm γ 0 = g00 := by
  funext j
  exact if_neg (Nat.not_lt_zero j)
theorem om_circuit {σ : sg} (wf : Wf σ) : OpM tr_X7_circuit σ [] (ccA σ) (ccS σ) := by
  intro S Q h hq
  rw [tq_X7_circuit]
  intro K68 r68
  unfold sm_X7_circuit_0
  have hl := wf.ltr
  have tm : S.1 58 3 = nI σ.2.2.2.1.1 ∧ ∀ j, j < σ.2.2.2.1.1 → S.2.1 60 j = nI (σ.2.2.2.1.2 j) := h.2.2.2.1
  unfold ccA ccS at hq
  have tp : ∀ S', Mf [3, 8, 9, 10, 11] [65, 66] S S' → S'.1 58 3 = 0 → MI S' (σ.1, σ.2.1, σ.2.2.1, (0, σ.2.2.2.1.2), σ.2.2.2.2) := fun S' f z => h.tp (f.2.1 59 (by simp)) (f.1 58 1 (by simp)) (by rw [f.2.2]) (f.2.1 62 (by simp)) (f.2.1 63 (by simp)) ⟨z, fun j hj => absurd hj (Nat.not_lt_zero j)⟩
  generalize σ.2.2.2.1.1 = T at *
  generalize σ.2.2.2.1.2 = c at *
  rw [hq_P (k := 8) k58 rfl, hq_P (k := 9) k58 rfl, hq_P (k := 10) k58 rfl, hq_P (k := 11) k58 rfl, m_v]
  have s0 : Mf [3, 8, 9, 10, 11] [65, 66] S (sI (sI (sI (sI S 58 8 0) 58 9 (-4)) 58 10 0) 58 11 0) := (((Mf.I (by simp)).tr (Mf.I (by simp))).tr (Mf.I (by simp))).tr (Mf.I (by simp))
  have t0 : MC (sI (sI (sI (sI S 58 8 0) 58 9 (-4)) 58 10 0) 58 11 0) T c 0 none := ⟨by rw [sI_ne _ _ (by omega), sI_ne _ _ (by omega), sI_ne _ _ (by omega), sI_ne _ _ (by omega)]; exact tm.1, by rw [sI_ne _ _ (by omega), sI_ne _ _ (by omega), sI_ne _ _ (by omega), sI_at]; rfl, by rw [sI_ne _ _ (by omega), sI_ne _ _ (by omega), sI_at]; rfl, fun q e => (by cases e), tm.2⟩
  have z10 : (sI (sI (sI (sI S 58 8 0) 58 9 (-4)) 58 10 0) 58 11 0).1 58 10 = nI 0 := by rw [sI_ne _ _ (by omega), sI_at]; rfl
  have z11 : (sI (sI (sI (sI S 58 8 0) 58 9 (-4)) 58 10 0) 58 11 0).1 58 11 = nI 0 := by rw [sI_at]; rfl
  generalize sI (sI (sI (sI S 58 8 0) 58 9 (-4)) 58 10 0) 58 11 0 = S0 at *
  have bad2 : ∀ {K : Int32 → aw_H → Prop} e, prs T c = .inl e → ∀ S1 p', Mf [3, 8, 9, 10, 11] [65, 66] S S1 → MC S1 T c p' (some e) → (sp_I (hp S1) 58 6 3 0 fun h10 => sv_O h10 58 6 (tr_X7_fine [.ref 58] h10 fun r12 h11 => sr_I r12 fun v13 => if ¬ v13 = 0 then K v13 h11 else (sg_I h11 58 6 9 fun v19 => Q (some (.int (((-20)) - v19))) h11))) := by
    intro K e he S1 p' s1 t1
    rw [he] at hq
    have hq : ∀ S', Fm S S' → MI S' (σ.1, σ.2.1, σ.2.2.1, (0, c), σ.2.2.2.2) → Q (some (.int ((-20) - nI e))) (hp S') := hq
    rw [hq_P (k := 3) k58 rfl, m_v, m_fine0 t1.z]
    simp only [sr_I]
    rw [if_neg (by decide), hq_I (k := 9) k58 rfl, t1.z.2.2.1]
    have s2 := s1.tr (Mf.I (S := S1) (k := 3) (v := 0) (ks := [3, 8, 9, 10, 11]) (ps := [65, 66]) (by simp))
    exact hq _ (s2.fm (by simp)) (tp _ s2 (sI_at _ _ _ _))
  refine m_wires t0 hl z10 (fun e he v S1 p' s1 t1 => ?_) (fun W b p' hW hp' good S1 s1 t1 b1 => ?_)
  · simp only [sr_I]
    rw [m_v]
    refine m_gates0 t1 ?_
    simp only [sr_V]
    exact bad2 (K := fun _ h11 => sv_O h11 58 6 (tr_X7_clear [.ref 58, .int v] h11 fun r15 h14 => sr_V r15 <| sg_R h14 58 6 0 fun q16 => sg_I h14 58 6 10 fun v17 => ss_I h14 q16 2 v17 fun h18 => K68 58 0 h18)) e he S1 p' (s0.tr (s1.mono (by simp) (by simp))) t1
  · simp only [sr_I]
    rw [m_v]
    have z1 : S1.1 58 11 = nI 0 := by rw [s1.1 58 11 (by simp)]; exact z11
    have s01 := s0.tr (s1.mono (ks' := [3, 8, 9, 10, 11]) (ps' := [65, 66]) (by simp) (by simp))
    refine m_gates t1 hl hp' hW z1 (fun e he S2 p2 s2 t2 => ?_) (fun n γ he S2 p2 s2 t2 n2 d2 => ?_)
    · simp only [sr_V]
      rw [he] at good
      exact bad2 (K := fun _ h11 => sv_O h11 58 6 (tr_X7_clear [.ref 58, .int (nI W)] h11 fun r15 h14 => sr_V r15 <| sg_R h14 58 6 0 fun q16 => sg_I h14 58 6 10 fun v17 => ss_I h14 q16 2 v17 fun h18 => K68 58 0 h18)) e (good _ rfl) S2 p2 (s01.tr (s2.mono (by simp) (by simp))) t2
    · simp only [sr_V]
      rw [he] at good
      have hprs : prs T c = .inr (W, b, n, γ) := good _ rfl
      obtain ⟨-, hb, hn, hg⟩ := prs_ok hprs
      rw [hprs] at hq
      have hq : ∀ S', Fm S S' → MI S' ((W, n, b, 0, bD σ.1, nrm γ n), [], σ.2.2.1, (0, c), σ.2.2.2.2) → Q (some (.int (nI n))) (hp S') := hq
      have s02 := s01.tr (s2.mono (ks' := [3, 8, 9, 10, 11]) (ps' := [65, 66]) (by simp) (by simp))
      have b2 : S2.1 58 10 = nI b := by rw [s2.1 58 10 (by simp)]; exact b1
      rw [hq_P (k := 3) k58 rfl, m_v, m_fine1 t2.z]
      simp only [sr_I]
      have s3 := s02.tr (Mf.I (S := S2) (k := 3) (v := 0) (ks := [3, 8, 9, 10, 11]) (ps := [65, 66]) (by simp))
      have M3 := tp _ s3 (sI_at _ _ _ _)
      have b3 : (sI S2 58 3 0).1 58 10 = nI b := by rw [sI_ne _ _ (by omega)]; exact b2
      have n3 : (sI S2 58 3 0).1 58 11 = nI n := by rw [sI_ne _ _ (by omega)]; exact n2
      have d3 : RD (sI S2 58 3 0) n γ := d2
      generalize sI S2 58 3 0 = S3 at *
      have wfx : ∀ B, Bok B → Wf (B, [], σ.2.2.1, (0, c), σ.2.2.2.2) := fun B ok => ⟨ok, by simp, fun j B hj => by simp at hj, wf.2.2.2.1, ⟨Nat.zero_le _, fun j hj => absurd hj (Nat.not_lt_zero j)⟩, wf.2.2.2.2.2⟩
      have wf1 : Wf (σ.1, σ.2.1, σ.2.2.1, (0, c), σ.2.2.2.2) := ⟨wf.1, wf.2.1, wf.2.2.1, wf.2.2.2.1, ⟨Nat.zero_le _, fun j hj => absurd hj (Nat.not_lt_zero j)⟩, wf.2.2.2.2.2⟩
      rw [if_pos (by decide), m_v]
      refine i_Mclear2 M3 wf1 (fun f M4 => ?_)
      simp only [sr_V]
      rw [m_0, hq_I (k := 10) k58 rfl, show (sF S3 59 f).1 58 10 = nI b from b3, show (ss_I (hp _) 59 2 _ _) = _ from m_wsn (n := 2) (by omega), sA_F]
      have wf4 : Wf ((W, 0, 0, 0, bD σ.1, bG σ.1), [], σ.2.2.1, (0, c), σ.2.2.2.2) := wfx _ ⟨hW, Nat.zero_le _, Nat.two_pow_pos W, Nat.le_refl _, wf.1.2.2.2.2.1, fun g hg => absurd hg (Nat.not_lt_zero g)⟩
      have M5 : MI (sF (sF S3 59 f) 59 (upd ((sF S3 59 f).2.1 59) 2 (nI b))) ((W, 0, b, 0, bD σ.1, bG σ.1), [], σ.2.2.1, (0, c), σ.2.2.2.2) := by
        obtain ⟨a0, a1, a2, a3, a4, -⟩ := M4.1
        refine M4.hd (w := W) (b := b) (pl := 0) (dr := bD σ.1) wf4 (fun k hk => by rw [pk_un (by omega)]) ?_ ?_ ?_ ?_ ?_
        · rw [pk_un (by omega)]; exact a0
        · rw [pk_un (by omega)]; exact a1
        · rw [pk_us]
        · rw [pk_un (by omega)]; exact a3
        · rw [pk_un (by omega)]; exact a4
      have M6 : MI (sF (sF S3 59 f) 59 (upd ((sF S3 59 f).2.1 59) 2 (nI b))) ((W, 0, b, 0, bD σ.1, nrm γ 0), [], σ.2.2.1, (0, c), σ.2.2.2.2) := ⟨⟨M5.1.1, M5.1.2.1, M5.1.2.2.1, M5.1.2.2.2.1, M5.1.2.2.2.2.1, fun g hg => absurd hg (Nat.not_lt_zero g)⟩, M5.2⟩
      have F6 : Fm S (sF (sF S3 59 f) 59 (upd ((sF S3 59 f).2.1 59) 2 (nI b))) := ((s3.fm (by simp)).tr (Fm.F (by omega))).tr (Fm.F (by omega))
      have n6 : (sF (sF S3 59 f) 59 (upd ((sF S3 59 f).2.1 59) 2 (nI b))).1 58 11 = nI n := n3
      have d6 : RD (sF (sF S3 59 f) 59 (upd ((sF S3 59 f).2.1 59) 2 (nI b))) n γ := d3
      generalize sF (sF S3 59 f) 59 (upd ((sF S3 59 f).2.1 59) 2 (nI b)) = S6 at *
      have main : ∀ m k S4, k + m = n → MI S4 ((W, k, b, 0, bD σ.1, nrm γ k), [], σ.2.2.1, (0, c), σ.2.2.2.2) → Fm S S4 → S4.1 58 11 = nI n → RD S4 n γ → K68 58 (nI k) (hp S4) := by
        intro m
        induction m with
        | zero =>
          intro k S4 ek M F4 n4 d4
          have ek : k = n := ek
          subst ek
          apply r68
          unfold sm_X7_circuit_68
          rw [hq_I (k := 11) k58 rfl, n4, if_pos (nI_le (by omega) (by omega)), hq_I (k := 11) k58 rfl, n4]
          exact hq S4 F4 M
        | succ m ih =>
          intro k S4 ek M F4 n4 d4
          apply r68
          unfold sm_X7_circuit_68
          have i0 : (5 : Int32) * nI k = nI (5 * k) := by rw [show (5 : Int32) = nI 5 from rfl, pk_mul]
          have i1 : nI (5 * k) + (1 : Int32) = nI (5 * k + 1) := nI_add (5 * k) 1
          have i2 : nI (5 * k) + (2 : Int32) = nI (5 * k + 2) := nI_add (5 * k) 2
          have i3 : nI (5 * k) + (3 : Int32) = nI (5 * k + 3) := nI_add (5 * k) 3
          have i4 : nI (5 * k) + (4 : Int32) = nI (5 * k + 4) := nI_add (5 * k) 4
          have r65 : ∀ (j : Nat) (hj : j < 80) (K : Int32 → Prop), sa_I (hp S4) 65 (nI j) K = K (S4.2.1 65 j) := fun j hj K => ar_r (p := 65) (N := 80) rfl rfl hj (by omega)
          obtain ⟨q0, q1, q2, q3, q4⟩ := d4 k (by omega)
          rw [hq_I (k := 11) k58 rfl, n4, if_neg (nI_ge (by omega) (by omega)), i0, m_12, r65 _ (by omega), q0, m_12, i1, r65 _ (by omega), q1, m_12, i2, r65 _ (by omega), q2, m_12, i3, r65 _ (by omega), q3, m_12, i4, r65 _ (by omega), q4, m_v]
          have wfk : Wf ((W, k, b, 0, bD σ.1, nrm γ k), [], σ.2.2.1, (0, c), σ.2.2.2.2) := wfx _ ⟨hW, by show k ≤ 16; omega, hb, Nat.zero_le _, wf.1.2.2.2.2.1, fun g hgk => by
            have hgk : g < k := hgk
            show gok W (if g < k then γ g else g00 g)
            rw [if_pos hgk]
            exact hg g (by omega)⟩
          refine i_Mput2 M wfk (g := γ k) (show k < 16 by omega) (fun f M' => ?_)
          simp only [sr_I]
          rw [nI_1]
          have M' : MI (sF S4 59 f) ((W, k + 1, b, 0, bD σ.1, gput (nrm γ k) k (γ k)), [], σ.2.2.1, (0, c), σ.2.2.2.2) := M'
          rw [nrm_s] at M'
          exact ih (k + 1) _ (by omega) M' (F4.tr (Fm.F (by omega))) n4 d4
      exact main n 0 S6 (by omega) M6 F6 n6 d6
theorem op_circuit {σ : sg} (wf : Wf σ) : Op tr_X6_circuit tr_X7_circuit σ [] := ⟨ccA σ, ccS σ, oc_circuit wf, om_circuit wf⟩
