/-! CIRCUIT: the class reads a text -/
theorem i32n (x : Int32) : x = nI x.toBitVec.toNat := Int32.toBitVec_inj.mp (by show _ = BitVec.ofNat 32 _; simp)
theorem Bo.any (S : st_S) (p : Nat) : ∃ B, Bo S p B := ⟨((S.1 p 0).toBitVec.toNat, (S.1 p 1).toBitVec.toNat, (S.1 p 3).toBitVec.toNat, (S.1 p 4).toBitVec.toNat, (S.1 p 5).toBitVec.toNat, fun g => ((S.2.1 (p + 1) g).toBitVec.toNat, 0, 0, 0, 0)), i32n _, i32n _, i32n _, i32n _, i32n _, fun g _ => by
  have := i32n (S.2.1 (p + 1) g)
  show _ = nI ((S.2.1 (p + 1) g).toBitVec.toNat + 8 * 0 + 64 * 0 + 512 * 0 + 4096 * 0)
  rw [show (S.2.1 (p + 1) g).toBitVec.toNat + 8 * 0 + 64 * 0 + 512 * 0 + 4096 * 0 = (S.2.1 (p + 1) g).toBitVec.toNat by omega]
  exact this⟩
theorem e_st43 {S : st_S} {W : Nat} (h : S.1 43 0 = nI W) (hW : W ≤ 6) {Q : aw_R} : tr_X0_states [.ref 43] (hp S) Q = Q (some (.int (nI (2 ^ W)))) (hp S) := by
  rw [propext tq_X0_states]
  unfold sm_X0_states_0
  rw [hq_I (k := 0) k43 rfl, h, shl1 _ (by omega)]
theorem Bo.bits {S : st_S} {W b D : Nat} (h : Bo S 43 (W, 0, 0, 0, D, g00)) : Bo (sI S 43 3 (nI b)) 43 (W, 0, b, 0, D, g00) := by
  obtain ⟨a0, a1, a3, a4, a5, ag⟩ := h
  exact ⟨by simp [sI]; exact a0, by simp [sI]; exact a1, by simp [sI], by simp [sI]; exact a4, by simp [sI]; exact a5, fun g hg => absurd hg (Nat.not_lt_zero g)⟩
theorem c_bits {S : st_S} {T : Nat} {c : Nat → Nat} {p W D : Nat} (h : TC S T c p) (hl : Ltr T c) (hpT : p ≤ T) (hB : Bo S 43 (W, 0, 0, 0, D, g00)) (hW : 2 ≤ W ∧ W ≤ 6) {Q : aw_R}
    (hq0 : ∀ e, pbt T c W p = .inl e → ∀ S2, Sx [41, 43, 44] S S2 → TC S2 T c e → Q (some (.int 0)) (hp S2))
    (hq1 : ∀ b p', pbt T c W p = .inr (b, p') → p' ≤ T → b < 2 ^ W → ∀ S2, Sx [41, 43, 44] S S2 → TC S2 T c p' → Bo S2 43 (W, 0, b, 0, D, g00) → Q (some (.int 1)) (hp S2)) : tr_X5_readBits [.ref 41, .ref 43] (hp S) Q := by
  rw [tq_X5_readBits]
  unfold sm_X5_readBits_0
  have hT := hl.1
  have hs := skip_le (c := c) hpT
  have hw := pw_le hW.2
  rw [tc_v, show (61 : Int32) = nI 61 from rfl]
  refine c_takes h hl hpT (by omega) (by omega) (fun hc hlt S1 s1 t1 => ?_) (fun hc S1 s1 t1 => ?_)
  · simp only [sr_I]
    rw [if_pos (by decide), tc_v]
    have hr : ∀ r, (if isd T c (skip T c (skip T c p + 1)) then
      (if isd T c (skip T c (skip T c p + 1) + 1) then
        (if 10 * (c (skip T c (skip T c p + 1)) - 48) + (c (skip T c (skip T c p + 1) + 1) - 48) < 2 ^ W then .inr (10 * (c (skip T c (skip T c p + 1)) - 48) + (c (skip T c (skip T c p + 1) + 1) - 48), skip T c (skip T c p + 1) + 1 + 1) else .inl (skip T c (skip T c p + 1)))
      else (if c (skip T c (skip T c p + 1)) - 48 < 2 ^ W then .inr (c (skip T c (skip T c p + 1)) - 48, skip T c (skip T c p + 1) + 1) else .inl (skip T c (skip T c p + 1))))
    else .inl (skip T c (skip T c p + 1))) = r → pbt T c W p = r := fun r e => by unfold pbt; rw [if_pos hc]; exact e
    have hs2 := skip_le (T := T) (c := c) (p := skip T c p + 1) (by omega)
    refine c_skip t1 hl (by omega) (fun S2 s2 t2 => ?_)
    simp only [sr_V]
    generalize skip T c (skip T c p + 1) = q at *
    rw [hq_I (k := 2) k41 rfl, t2.2.1, tc_v]
    have s12 := s1.tr s2
    refine c_digit t2 hl hs2.2 (fun hd => ?_) (fun hd => ?_)
    · simp only [sr_I]
      rw [if_pos (nI_pos' (by omega)), hq_I (k := 2) k41 rfl, t2.2.1, nI_1, hq_P (k := 2) k41 rfl, tc_v]
      have s13 := s12.tr (Sx.I (S := S2) (p := 41) (k := 2) (v := nI (q + 1)) (ps := [41]) (by simp))
      have t3 := t2.at (q + 1)
      have b3 := hB.k41 s13
      generalize sI S2 41 2 (nI (q + 1)) = S3 at *
      refine c_digit t3 hl (by omega) (fun hd2 => ?_) (fun hd2 => ?_)
      · simp only [sr_I]
        rw [if_neg (nI_pos (by omega)), hq_I (k := 2) k41 rfl, t3.2.1, nI_1, hq_P (k := 2) k41 rfl, d_v]
        have s14 := s13.tr (Sx.I (S := S3) (p := 41) (k := 2) (v := nI (q + 1 + 1)) (ps := [41]) (by simp))
        have t4 := t3.at (q + 1 + 1)
        have b4 := hB.k41 s14
        generalize sI S3 41 2 (nI (q + 1 + 1)) = S4 at *
        rw [e_st43 (show S4.1 43 0 = nI W from b4.1) hW.2]
        simp only [sr_I]
        rw [show (10 : Int32) * nI (c q - 48) + nI (c (q + 1) - 48) = nI (10 * (c q - 48) + (c (q + 1) - 48)) by rw [show (10 : Int32) = nI 10 from rfl, pk_mul, nI_add]]
        rw [if_pos hd, if_pos hd2] at hr
        by_cases hb : 10 * (c q - 48) + (c (q + 1) - 48) < 2 ^ W
        · rw [if_pos hb] at hr
          rw [if_pos (nI_lt hb (by omega)), hq_P (k := 3) k43 rfl]
          exact hq1 _ _ (hr _ rfl) (by omega) hb _ (s14.l41.tr (Sx.I (by simp))) (t4.k43 (Sx.I (by simp))) b4.bits
        · rw [if_neg hb] at hr
          rw [if_neg (nI_nlt (by omega) (by omega)), hq_P (k := 2) k41 rfl]
          exact hq0 _ (hr _ rfl) _ (s14.l41.tr (Sx.I (by simp))) (t4.at q)
      · simp only [sr_I]
        rw [if_pos (by decide), d_v, e_st43 (show S3.1 43 0 = nI W from b3.1) hW.2]
        simp only [sr_I]
        rw [if_pos hd, if_neg hd2] at hr
        by_cases hb : c q - 48 < 2 ^ W
        · rw [if_pos hb] at hr
          rw [if_pos (nI_lt hb (by omega)), hq_P (k := 3) k43 rfl]
          exact hq1 _ _ (hr _ rfl) (by omega) hb _ (s13.l41.tr (Sx.I (by simp))) (t3.k43 (Sx.I (by simp))) b3.bits
        · rw [if_neg hb] at hr
          rw [if_neg (nI_nlt (by omega) (by omega)), hq_P (k := 2) k41 rfl]
          exact hq0 _ (hr _ rfl) _ (s13.l41.tr (Sx.I (by simp))) (t3.at q)
    · simp only [sr_I]
      rw [if_neg hd] at hr
      rw [if_neg (by decide)]
      exact hq0 _ (hr _ rfl) S2 s12.l41 t2
  · simp only [sr_I]
    rw [if_neg (by decide)]
    exact hq1 0 _ (by unfold pbt; rw [if_neg hc]) hs.2 (Nat.two_pow_pos W) S1 s1.l41 t1 (hB.k41 s1)
theorem c_into {S : st_S} {T : Nat} {c : Nat → Nat} {p : Nat} (h : TC S T c p) (hl : Ltr T c) {Q : aw_R}
    (hq0 : ∀ e, prs T c = .inl e → ∀ S2, Sx [41, 43, 44] S S2 → TC S2 T c e → Q (some (.int 0)) (hp S2))
    (hq1 : ∀ W b n γ, prs T c = .inr (W, b, n, γ) → ∀ D S2, Sx [41, 43, 44] S S2 → Bo S2 43 (W, n, b, 0, D, γ) → Q (some (.int 1)) (hp S2)) : tr_X5_readInto [.ref 41, .ref 43] (hp S) Q := by
  rw [tq_X5_readInto]
  unfold sm_X5_readInto_0
  have hT := hl.1
  have hs := skip_le (T := T) (c := c) (p := 0) (by omega)
  rw [hq_P (k := 2) k41 rfl, tc_v, tq_X5_readWires]
  unfold sm_X5_readWires_0
  have s0 : Sx [41] S (sI S 41 2 0) := Sx.I (by simp)
  have t0 : TC (sI S 41 2 0) T c 0 := h.at 0
  generalize sI S 41 2 0 = S0 at *
  rw [tc_v]
  refine c_skip t0 hl (by omega) (fun S1 s1 t1 => ?_)
  simp only [sr_V]
  rw [tc_v]
  have s01 := s0.tr s1
  have fail : ¬ (isd T c (skip T c 0) ∧ 2 ≤ c (skip T c 0) - 48 ∧ c (skip T c 0) - 48 ≤ 6) → prs T c = .inl (skip T c 0) := fun q => by
    unfold prs
    rw [if_neg q]
  have good : (isd T c (skip T c 0) ∧ 2 ≤ c (skip T c 0) - 48 ∧ c (skip T c 0) - 48 ≤ 6) → ∀ r, (match pbt T c (c (skip T c 0) - 48) (skip T c 0 + 1) with
    | .inl e => .inl e
    | .inr (b, p) => if chr T c (skip T c p) = 58 then (match prg T c (c (skip T c 0) - 48) (skip T c p + 1) with
      | .inl e => .inl e
      | .inr (n, γ) => .inr (c (skip T c 0) - 48, b, n, γ)) else .inl (skip T c p)) = r → prs T c = r := fun q r e => by
    unfold prs
    rw [if_pos q]
    exact e
  generalize skip T c 0 = q at *
  refine c_digit t1 hl hs.2 (fun hd => ?_) (fun hd => ?_)
  · simp only [sr_I]
    by_cases h2 : c q - 48 < 2
    · rw [if_pos (show nI (c q - 48) < (2 : Int32) from nI_lt (b := 2) h2 (by omega)), if_pos (by decide)]
      exact hq0 _ (fail (fun z => by omega)) S1 s01.l41 t1
    · rw [if_neg (show ¬ nI (c q - 48) < (2 : Int32) from nI_nlt (b := 2) (by omega) (by omega))]
      by_cases h6 : c q - 48 ≤ 6
      · rw [if_pos (show nI (c q - 48) ≤ (6 : Int32) from nI_le (b := 6) h6 (by omega)), hq_I (k := 2) k41 rfl, t1.2.1, nI_1, hq_P (k := 2) k41 rfl, d_v]
        have s2 := s01.tr (Sx.I (S := S1) (p := 41) (k := 2) (v := nI (q + 1)) (ps := [41]) (by simp))
        have t2 := t1.at (q + 1)
        generalize sI S1 41 2 (nI (q + 1)) = S2 at *
        obtain ⟨B0, b0⟩ := Bo.any S2 43
        have good := good ⟨hd, by omega, h6⟩
        refine i_clear k43 b0 (fun S3 s3 b3 => ?_)
        simp only [sr_V]
        rw [if_neg (by decide), tc_v]
        have b3 : Bo S3 43 (c q - 48, 0, 0, 0, bD B0, g00) := ⟨b3.1, b3.2.1, b3.2.2.1, b3.2.2.2.1, b3.2.2.2.2.1, fun g hg => absurd hg (Nat.not_lt_zero g)⟩
        have s3' := s2.l41.tr (s3.mono (qs := [41, 43, 44]) (by simp))
        have t3 := t2.k43 (s3.mono (by simp))
        refine c_bits t3 hl (by omega) b3 ⟨by omega, h6⟩ (fun e he S4 s4 t4 => ?_) (fun b p' he hp' hb S4 s4 t4 b4 => ?_)
        · simp only [sr_I]
          rw [he] at good
          rw [if_pos (by decide)]
          exact hq0 e (good _ rfl) S4 (s3'.tr s4) t4
        · simp only [sr_I]
          rw [he] at good
          have good : ∀ r, (if chr T c (skip T c p') = 58 then (match prg T c (c q - 48) (skip T c p' + 1) with
            | .inl e => .inl e
            | .inr (n, γ) => .inr (c q - 48, b, n, γ)) else .inl (skip T c p')) = r → prs T c = r := good
          rw [if_neg (by decide), tc_v, show (58 : Int32) = nI 58 from rfl]
          refine c_takes t4 hl hp' (by omega) (by omega) (fun hc hlt S5 s5 t5 => ?_) (fun hc S5 s5 t5 => ?_)
          · rw [if_pos hc] at good
            simp only [sr_I]
            rw [if_neg (by decide), tc_v]
            refine c_gates t5 hl (by omega) (b4.k41 s5) ⟨by omega, h6⟩ (fun e he2 S6 s6 t6 => ?_) (fun n γ he2 S6 s6 b6 => ?_)
            · simp only [sr_I]
              rw [he2] at good
              rw [if_pos (by decide)]
              exact hq0 e (good _ rfl) S6 (((s3'.tr s4).tr s5.l41).tr s6) t6
            · simp only [sr_I]
              rw [he2] at good
              rw [if_neg (by decide)]
              exact hq1 _ _ _ _ (good _ rfl) (bD B0) S6 (((s3'.tr s4).tr s5.l41).tr s6) b6
          · rw [if_neg hc] at good
            simp only [sr_I]
            rw [if_pos (by decide)]
            exact hq0 _ (good _ rfl) S5 ((s3'.tr s4).tr s5.l41) t5
      · rw [if_neg (show ¬ nI (c q - 48) ≤ (6 : Int32) from nI_ge (a := 6) (by omega) (by omega)), if_pos (by decide)]
        exact hq0 _ (fail (fun z => by omega)) S1 s01.l41 t1
  · simp only [sr_I]
    rw [if_pos (by decide), if_pos (by decide)]
    exact hq0 _ (fail (fun z => hd z.1)) S1 s01.l41 t1
def nrm (γ : Nat → gt) (n : Nat) : Nat → gt := fun j => if j < n then γ j else g00 j
theorem CI.all {S S' : st_S} {σ : sg} {B : bd} {l : List bd} {t : Nat × (Nat → Nat)} (h : CI S σ) (hs : ∀ q, (q = 0 ∨ (21 ≤ q ∧ q ≤ 40) ∨ 50 ≤ q) → q < 58 → Sa S S' q) (hB : Bok B ∧ Bo S' 1 B) (hP : Po S' 3 l) (ht : To S' t) : CI S' (B, l, σ.2.2.1, t, σ.2.2.2.2) := by
  obtain ⟨h1, h2, h3, h4, h5⟩ := h
  refine ⟨hB, hP, ?_, ht, ?_⟩
  · have f0 := hs 0 (Or.inl rfl) (by decide)
    show (match σ.2.2.1 with
      | none => S'.1 0 5 = 0
      | some (b, l) => S'.1 0 5 = 1 ∧ (Bok b ∧ Bo S' 21 b) ∧ Po S' 23 l)
    split
    · rename_i e
      rw [e] at h3
      rw [f0.1]
      exact h3
    · rename_i b l e
      rw [e] at h3
      rw [f0.1]
      exact ⟨h3.1, ⟨h3.2.1.1, h3.2.1.2.kept (hs _ (by omega) (by omega)) (hs _ (by omega) (by omega))⟩, h3.2.2.kept (fun q _ h => hs q (by omega) (by omega))⟩
  · intro i hi
    exact (h5 i hi).kept (hs _ (by omega) (by omega)) (hs _ (by omega) (by omega))
theorem prs_ok {T : Nat} {c : Nat → Nat} {W b n : Nat} {γ : Nat → gt} (e : prs T c = .inr (W, b, n, γ)) : (2 ≤ W ∧ W ≤ 6) ∧ b < 2 ^ W ∧ n ≤ 16 ∧ ∀ g, g < n → gok W (γ g) := by
  unfold prs at e
  split at e
  · rename_i hw
    generalize c (skip T c 0) - 48 = W' at *
    split at e
    · cases e
    · rename_i b' p hb
      have hbl : b' < 2 ^ W' := by
        unfold pbt at hb
        repeat' split at hb
        all_goals first | (cases hb; done) | (simp only [Sum.inr.injEq, Prod.mk.injEq] at hb; rw [← hb.1]; first | assumption | exact Nat.two_pow_pos _)
      split at e
      · split at e
        · cases e
        · rename_i n' γ' hg
          simp only [Sum.inr.injEq, Prod.mk.injEq] at e
          obtain ⟨e1, e2, e3, e4⟩ := e
          subst e1
          subst e2
          subst e3
          subst e4
          refine ⟨hw.2, hbl, ?_⟩
          unfold prg at hg
          split at hg
          · simp only [Sum.inr.injEq, Prod.mk.injEq] at hg
            rw [← hg.1]
            exact ⟨by omega, fun g hg => absurd hg (Nat.not_lt_zero g)⟩
          · exact rgs_ok hw.2.1 (by omega) (fun g hg => absurd hg (Nat.not_lt_zero g)) hg
      · cases e
  · cases e
/-- what a circuit call makes of all -/
def ccA (σ : sg) : Int32 := match prs σ.2.2.2.1.1 σ.2.2.2.1.2 with
  | .inl e => (-20) - nI e
  | .inr (_, _, n, _) => nI n
def ccS (σ : sg) : sg := match prs σ.2.2.2.1.1 σ.2.2.2.1.2 with
  | .inl _ => (σ.1, σ.2.1, σ.2.2.1, (0, σ.2.2.2.1.2), σ.2.2.2.2)
  | .inr (W, b, n, γ) => ((W, n, b, 0, bD σ.1, nrm γ n), [], σ.2.2.1, (0, σ.2.2.2.1.2), σ.2.2.2.2)
theorem Wf.ltr {σ : sg} (wf : Wf σ) : Ltr σ.2.2.2.1.1 σ.2.2.2.1.2 := wf.2.2.2.2.1
theorem CI.tc {S : st_S} {σ : sg} (h : CI S σ) : TC S σ.2.2.2.1.1 σ.2.2.2.1.2 (S.1 41 2).toBitVec.toNat := ⟨h.2.2.2.1.2.1, i32n _, fun j hj => (h.2.2.2.1.2.2 j hj).2⟩
theorem oc_circuit {σ : sg} (wf : Wf σ) : OpC tr_X6_circuit σ [] (ccA σ) (ccS σ) := by
  intro S Q h hq
  rw [tq_X6_circuit]; unfold sm_X6_circuit_0
  rw [c_5, c_6, tc_v]
  unfold ccA ccS at hq
  refine c_into h.tc wf.ltr (fun e he S2 s2 t2 => ?_) (fun W b n γ he D S2 s2 b2 => ?_)
  · simp only [sr_I]
    rw [he] at hq
    have hq : ∀ S', Fc S S' → CI S' (σ.1, σ.2.1, σ.2.2.1, (0, σ.2.2.2.1.2), σ.2.2.2.2) → Q (some (.int ((-20) - nI e))) (hp S') := hq
    rw [c_5, hq_P (k := 1) k41 rfl, if_neg (by decide), c_5, hq_I (k := 2) k41 rfl, sI_ne _ _ (by omega), t2.2.1]
    have s3 := s2.tr (Sx.I (S := S2) (p := 41) (k := 1) (v := 0) (ps := [41, 43, 44]) (by simp))
    refine hq _ (s3.fc (by simp)) (h.all (fun q hq' _ => s3 q (by simp; omega)) ⟨h.1.1, h.1.2.kept (s3 1 (by simp)) (s3 2 (by simp))⟩ (h.2.1.kept (fun q q1 q2 => s3 q (by simp; omega))) ⟨Nat.zero_le _, sI_at _ _ _ _, fun j hj => absurd hj (Nat.not_lt_zero j)⟩)
  · simp only [sr_I]
    rw [he] at hq
    have hq : ∀ S', Fc S S' → CI S' ((W, n, b, 0, bD σ.1, nrm γ n), [], σ.2.2.1, (0, σ.2.2.2.1.2), σ.2.2.2.2) → Q (some (.int (nI n))) (hp S') := hq
    obtain ⟨hW, hb, hn, hg⟩ := prs_ok he
    rw [c_5, hq_P (k := 1) k41 rfl, if_pos (by decide), c_6, c_0]
    have s3 := s2.tr (Sx.I (S := S2) (p := 41) (k := 1) (v := 0) (ps := [41, 43, 44]) (by simp))
    have b3 : Bo (sI S2 41 1 0) 43 (W, n, b, 0, D, γ) := b2.kept (Sa.I (by omega)) (Sa.I (by omega))
    have z3 : (sI S2 41 1 0).1 41 1 = 0 := sI_at _ _ _ _
    generalize sI S2 41 1 0 = S3 at *
    have B1 : Bo S3 1 σ.1 := h.1.2.kept (s3 1 (by simp)) (s3 2 (by simp))
    rw [hq_I (k := 5) k1 rfl, B1.2.2.2.2.1, hq_P (k := 5) k43 rfl, c_0, c_6, b_v]
    have s4 := s3.tr (Sx.I (S := S3) (p := 43) (k := 5) (v := nI (bD σ.1)) (ps := [41, 43, 44]) (by simp))
    have z4 : (sI S3 43 5 (nI (bD σ.1))).1 41 1 = 0 := by rw [sI_ne _ _ (by omega)]; exact z3
    have b4 : Bo (sI S3 43 5 (nI (bD σ.1))) 43 (W, n, b, 0, bD σ.1, nrm γ n) := by
      obtain ⟨a0, a1, a3, a4, a5, ag⟩ := b3
      refine ⟨by rw [sI_ne _ _ (by omega)]; exact a0, by rw [sI_ne _ _ (by omega)]; exact a1, by rw [sI_ne _ _ (by omega)]; exact a3, by rw [sI_ne _ _ (by omega)]; exact a4, sI_at _ _ _ _, fun g hg' => ?_⟩
      have hg' : g < n := hg'
      show S3.2.1 44 g = nI (gpk (if g < n then γ g else g00 g))
      rw [if_pos hg']
      exact ag g hg'
    generalize sI S3 43 5 (nI (bD σ.1)) = S4 at *
    have ok4 : Bok (W, n, b, 0, bD σ.1, nrm γ n) := ⟨hW, hn, hb, Nat.zero_le _, wf.1.2.2.2.2.1, fun g hg' => by
      have hg' : g < n := hg'
      show gok W (if g < n then γ g else g00 g)
      rw [if_pos hg']
      exact hg g hg'⟩
    refine i_becomes k1 k43 (by omega) b4 ok4 (fun S5 s5 b5 => ?_)
    simp only [sr_V]
    rw [c_1, p_v, e_forget k3]
    simp only [sr_V]
    rw [c_0, hq_I (k := 1) k1 rfl, sI_ne _ _ (by omega), show S5.1 1 1 = nI n from b5.2.1]
    have s5' : Sx [1, 2, 41, 43, 44] S S5 := (s4.mono (by simp)).tr (s5.mono (by simp))
    have hP5 : Po S5 3 σ.2.1 := h.2.1.kept (fun q q1 q2 => s5' q (by simp; omega))
    have s6 : Sx [1, 2, 3, 41, 43, 44] S (sI S5 3 2 0) := (s5'.mono (by simp)).tr (Sx.I (by simp))
    refine hq _ (s6.fc (by simp)) (h.all (fun q hq' _ => s6 q (by simp; omega)) ⟨ok4, b5.kept (Sa.I (by omega)) (Sa.I (by omega))⟩ hP5.forget ⟨Nat.zero_le _, ?_, fun j hj => absurd hj (Nat.not_lt_zero j)⟩)
    rw [sI_ne _ _ (by omega), (s5 41 (by simp)).1]
    exact z4
