/-! drift; gate, of, type -/
/-- the next draw (by choice: so nobody counts it out) -/
theorem dnx_ex (d : Nat) : ∃ y : Nat, y = (d * 1103515245 + 12345) % 2 ^ 31 := ⟨_, rfl⟩
noncomputable def dnx (d : Nat) : Nat := Classical.choose (dnx_ex d)
theorem dnx_eq (d : Nat) : dnx d = (d * 1103515245 + 12345) % 2 ^ 31 := Classical.choose_spec (dnx_ex d)
theorem dnx_lt (d : Nat) : dnx d < 2 ^ 31 := by
  rw [dnx_eq]
  exact Nat.mod_lt _ (by decide)
theorem dnx_e {d : Nat} (h : d < 2 ^ 31) : Int64.toInt32 ((((Int32.toInt64 (nI d)) * 1103515245) + 12345) &&& 2147483647) = nI (dnx d) := by
  rw [nI_l h, show (1103515245 : Int64) = lN 1103515245 from rfl, show (12345 : Int64) = lN 12345 from rfl, show (2147483647 : Int64) = lN (2 ^ 31 - 1) from rfl, lN_mul, lN_add, fb_maskL, lN_i, dnx_eq]
/-- the bits behind a draw -/
noncomputable def dfb (B : bd) : Nat := if dnx (bD B) / 65536 % 3 = 0 then bB B ^^^ 2 ^ (dnx (bD B) / 256 % bW B) else bB B
noncomputable def dB0 (B : bd) : bd := (bW B, bN B, dfb B, bP B, dnx (bD B), bG B)
noncomputable def dB (B : bd) : bd := if bP B < bN B then stB (dB0 B) else (bW B, bN B, dfb B, 0, dnx (bD B), bG B)
theorem dfb_lt {B : bd} (ok : Bok B) : dfb B < 2 ^ bW B := by
  unfold dfb
  split
  · exact Nat.xor_lt_two_pow ok.2.2.1 (p2lt (Nat.mod_lt _ (by have := ok.1; omega)))
  · exact ok.2.2.1
theorem dB0_ok {B : bd} (ok : Bok B) : Bok (dB0 B) := ⟨ok.1, ok.2.1, dfb_lt ok, ok.2.2.2.1, dnx_lt _, ok.2.2.2.2.2⟩
theorem dB_ok {B : bd} (ok : Bok B) : Bok (dB B) := by
  unfold dB
  split
  · rename_i h
    exact stB_ok (dB0_ok ok) h
  · exact ⟨ok.1, ok.2.1, dfb_lt ok, Nat.zero_le _, dnx_lt _, ok.2.2.2.2.2⟩
theorem n3 {d : Nat} (h : d < 2 ^ 31) : ((nI d / 65536) - (nI d / 65536) / 3 * 3) = nI (d / 65536 % 3) := by
  rw [show (65536 : Int32) = nI 65536 from rfl, show (3 : Int32) = nI 3 from rfl, pk_div h (by omega) (by omega), pk_rem (by omega) (by omega) (by omega)]
theorem nw {d w : Nat} (h : d < 2 ^ 31) (hw : 0 < w) (hw2 : w ≤ 6) : ((nI d / 256) - (nI d / 256) / nI w * nI w) = nI (d / 256 % w) := by
  rw [show (256 : Int32) = nI 256 from rfl, pk_div h (by omega) (by omega), pk_rem (by omega) hw (by omega)]
theorem i_driftOn {S : st_S} {B : bd} (hB : Bo S 1 B) (ok : Bok B) {Q : aw_R} (hq : ∀ S', Sx [1] S S' → Bo S' 1 (dB B) → Q none (hp S')) : tr_X0_driftOn [.ref 1] (hp S) Q := by
  rw [tq_X0_driftOn]
  have hd := dnx_lt (bD B)
  have hd0 := ok.2.2.2.2.1
  have hn := ok.2.1
  have fin : ∀ S1, Sx [1] S S1 → Bo S1 1 (dB0 B) → sm_X0_driftOn_58 Q 1 (hp S1) := by
    intro S1 s1 h1
    unfold sm_X0_driftOn_58
    rw [hq_I (k := 4) k1 rfl, hq_I (k := 1) k1 rfl, h1.2.2.2.1, h1.2.1]
    have hp1 := ok.2.2.2.1
    by_cases hlt : bP B < bN B
    · rw [if_neg (nI_ge (a := bP (dB0 B)) (b := bN (dB0 B)) hlt (by show bN B < _; omega)), b_v]
      refine i_stepOn k1 h1 (dB0_ok ok) hlt (fun S2 s2 h2 => ?_)
      simp only [sr_V]
      refine hq S2 (s1.tr s2) ?_
      unfold dB
      rw [if_pos hlt]
      exact h2
    · rw [if_pos (nI_le (a := bN (dB0 B)) (b := bP (dB0 B)) (by show bN B ≤ bP B; omega) (by show bP B < _; omega)), hq_P (k := 4) k1 rfl]
      refine hq _ (s1.tr (Sx.I (by simp))) ?_
      unfold dB
      rw [if_neg hlt]
      obtain ⟨a0, a1, a3, a4, a5, ag⟩ := h1
      exact ⟨by simp [sI, a0]; rfl, by simp [sI, a1]; rfl, by simp [sI, a3]; rfl, by simp [sI]; rfl, by simp [sI, a5]; rfl, ag⟩
  unfold sm_X0_driftOn_0
  obtain ⟨a0, a1, a3, a4, a5, ag⟩ := id hB
  rw [hq_I (k := 5) k1 rfl, a5, dnx_e hd0, hq_P (k := 5) k1 rfl, hq_I (k := 5) k1 rfl, sI_at, n3 hd]
  refine ⟨by decide, by decide, ?_⟩
  have hB1 : Bo (sI S 1 5 (nI (dnx (bD B)))) 1 (bW B, bN B, bB B, bP B, dnx (bD B), bG B) := ⟨by simp [sI, a0], by simp [sI, a1], by simp [sI, a3], by simp [sI, a4], by simp [sI], ag⟩
  have s1 : Sx [1] S (sI S 1 5 (nI (dnx (bD B)))) := Sx.I (by simp)
  by_cases h3 : dnx (bD B) / 65536 % 3 = 0
  · rw [if_neg (fun q => q (by rw [h3]; rfl)), hq_I (k := 0) k1 rfl, hB1.1, if_neg (nI_nle (by have := ok.1; show 0 < bW B; omega) (by have := ok.1; show bW B < _; omega)), hq_I (k := 5) k1 rfl, sI_at]
    refine ⟨by decide, ?_⟩
    rw [hq_I (k := 0) k1 rfl, hB1.1]
    refine ⟨nI_ne0 (by have := ok.1; show 0 < bW B; omega) (by have := ok.1; show bW B < _; omega), ?_⟩
    rw [show nI (bW (bW B, bN B, bB B, bP B, dnx (bD B), bG B)) = nI (bW B) from rfl, nw hd (by have := ok.1; omega) ok.1.2, b_v]
    refine i_turnOver k1 hB1 ⟨ok.1, ok.2.1, ok.2.2.1, ok.2.2.2.1, hd, ok.2.2.2.2.2⟩ (Nat.mod_lt _ (by have := ok.1; show 0 < bW B; omega)) (fun S2 s2 h2 => ?_)
    simp only [sr_V]
    refine fin S2 (s1.tr s2) ?_
    unfold dB0 dfb
    rw [if_pos h3]
    exact h2
  · rw [if_pos (show ¬ nI (dnx (bD B) / 65536 % 3) = 0 from fun q => h3 ((nI_eq (a := dnx (bD B) / 65536 % 3) (b := 0) (by omega) (by omega)).mp q))]
    refine fin _ s1 ?_
    unfold dB0 dfb
    rw [if_neg h3]
    exact hB1
noncomputable def drN : Nat → sg → sg
  | 0, σ => σ
  | n + 1, σ => nb (kp (drN n σ)) (dB (drN n σ).1)
theorem drN_wf {σ : sg} (wf : Wf σ) : ∀ {n : Nat}, Wf (drN n σ)
  | 0 => wf
  | n + 1 => nb_wf (kp_wf (drN_wf wf (n := n))) (dB_ok (drN_wf wf (n := n)).1)
theorem inb_1_40 {x : Int32} : (x < 1 ∧ inb x 1 40 = 0) ∨ (¬ x < 1 ∧ ¬ x ≤ 40 ∧ inb x 1 40 = 0) ∨ ∃ n, 1 ≤ n ∧ n ≤ 40 ∧ x = nI n ∧ ¬ x < 1 ∧ x ≤ 40 ∧ inb x 1 40 = 1 := by
  by_cases h : x < 1
  · exact Or.inl ⟨h, if_pos h⟩
  · by_cases h2 : x ≤ 40
    · refine Or.inr (Or.inr ?_)
      have e : inb x 1 40 = 1 := inb_1.mpr ⟨Int32.le_iff_toInt_le.mpr (by rw [Int32.lt_iff_toInt_lt] at h; omega), h2⟩
      have g1 := h
      have g2 := h2
      rw [Int32.lt_iff_toInt_lt] at g1
      have g1 : ¬ x.toInt < 1 := g1
      have g2 : x.toInt ≤ 40 := Int32.le_iff_toInt_le.mp g2
      refine ⟨x.toInt.toNat, by omega, by omega, Int32.toInt_inj.mp ?_, h, h2, e⟩
      rw [nI_toInt (by omega)]
      omega
    · refine Or.inr (Or.inl ⟨h, h2, ?_⟩)
      rcases inb_01 x 1 40 with q | q
      · exact q
      · exact absurd (inb_1.mp q).2 h2
/-- the reference's part of a drift behind the keeping -/
theorem i_Mdrift {S : st_S} {σ : sg} (h : MI S σ) (wf : Wf σ) {K14 : Nat → Int32 → Int32 → aw_H → Prop} {Q : aw_R} {x1 x2 : Int32} (hq : ∀ S', Fm S S' → MI S' (nb σ (dB σ.1)) → K14 58 x1 (x2 + 1) (hp S')) : sg_R (hp S) 58 6 0 fun q5 => sg_R (hp S) 58 6 0 fun q6 => sa_I (hp S) q6 4 fun v7 => ss_I (hp S) q5 4 (Int64.toInt32 ((((Int32.toInt64 v7) * 1103515245) + 12345) &&& 2147483647)) fun h8 => sg_R h8 58 6 0 fun q9 => sa_I h8 q9 2 fun v10 => sg_R h8 58 6 0 fun q11 => sa_I h8 q11 4 fun v12 => ¬ (65536 : Int32) = 0 ∧ (¬ (3 : Int32) = 0 ∧ (if ¬ ((v12 / 65536) - (v12 / 65536) / 3 * 3) = 0 then (sm_X7_drift_93 K14 Q 58 x1 x2 q9 2 v10 0 h8) else (sg_R h8 58 6 0 fun q13 => sa_I h8 q13 4 fun v14 => ¬ (256 : Int32) = 0 ∧ (sg_R h8 58 6 0 fun q15 => sa_I h8 q15 0 fun v16 => ¬ v16 = 0 ∧ (sm_X7_drift_93 K14 Q 58 x1 x2 q9 2 v10 ((1 : Int32) <<< (((v14 / 256) - (v14 / 256) / v16 * v16) &&& 31)) h8))))) := by
  have ok := wf.1
  have hd := dnx_lt (bD σ.1)
  have hd0 := ok.2.2.2.2.1
  have hn := ok.2.1
  have h64 := pw_le ok.1.2
  have hb := ok.2.2.1
  obtain ⟨a0, a1, a2, a3, a4, ag⟩ := id h.1
  have a0 : S.2.1 59 0 = nI (bW σ.1) := a0
  have a2 : S.2.1 59 2 = nI (bB σ.1) := a2
  have a4 : S.2.1 59 4 = nI (bD σ.1) := a4
  have fin : ∀ (xb : Int32), nI (bB σ.1) ^^^ xb = nI (dfb σ.1) → sm_X7_drift_93 K14 Q 58 x1 x2 59 2 (nI (bB σ.1)) xb (hp (sF S 59 (upd (S.2.1 59) 4 (nI (dnx (bD σ.1)))))) := by
    intro xb e
    unfold sm_X7_drift_93
    have h1 : MI (sF S 59 (upd (upd (S.2.1 59) 4 (nI (dnx (bD σ.1)))) 2 (nI (dfb σ.1)))) (nb σ (dB0 σ.1)) := by
      refine h.hd wf (fun k hk => by rw [pk_un (by omega), pk_un (by omega)]) ?_ ?_ ?_ ?_ ?_
      · rw [pk_un (by omega), pk_un (by omega)]; exact a0
      · rw [pk_un (by omega), pk_un (by omega)]; exact a1
      · rw [pk_us]
      · rw [pk_un (by omega), pk_un (by omega)]; exact a3
      · rw [pk_un (by omega), pk_us]
    rw [e, show (ss_I (hp _) 59 2 _ _) = _ from m_wsn (n := 2) (by omega), sA_F, sF_F, sF_at, m_0, show (sa_I (hp _) 59 3 _) = _ from m_wn (n := 3) (by omega), m_0, show (sa_I (hp _) 59 1 _) = _ from m_wn (n := 1) (by omega)]
    obtain ⟨b0, b1, b2, b3, b4, bg⟩ := id h1.1
    have b3 : (sF S 59 (upd (upd (S.2.1 59) 4 (nI (dnx (bD σ.1)))) 2 (nI (dfb σ.1)))).2.1 59 3 = nI (bP σ.1) := b3
    have b1 : (sF S 59 (upd (upd (S.2.1 59) 4 (nI (dnx (bD σ.1)))) 2 (nI (dfb σ.1)))).2.1 59 1 = nI (bN σ.1) := b1
    rw [b3, b1]
    have hp1 := ok.2.2.2.1
    by_cases hlt : bP σ.1 < bN σ.1
    · rw [if_pos (show ¬ nI (bP σ.1) = nI (bN σ.1) from fun q => by have := (nI_eq (by omega) (by omega)).mp q; omega), m_v]
      refine i_MstepOn h1 (nb_wf wf (dB0_ok ok)) hlt (fun S2 f2 h2 => ?_)
      simp only [sr_V]
      refine hq S2 ((Fm.F (by omega)).tr f2) ?_
      unfold dB
      rw [if_pos hlt]
      exact h2
    · rw [if_neg (fun q => q (by rw [show bP σ.1 = bN σ.1 by omega])), m_0, show (ss_I (hp _) 59 3 _ _) = _ from m_wsn (n := 3) (by omega), sA_F, sF_F, sF_at]
      refine hq _ (Fm.F (by omega)) ?_
      unfold dB
      rw [if_neg hlt]
      refine h.hd wf (fun k hk => by rw [pk_un (by omega), pk_un (by omega), pk_un (by omega)]) ?_ ?_ ?_ ?_ ?_
      · rw [pk_un (by omega), pk_un (by omega), pk_un (by omega)]; exact a0
      · rw [pk_un (by omega), pk_un (by omega), pk_un (by omega)]; exact a1
      · rw [pk_un (by omega), pk_us]
      · rw [pk_us]; rfl
      · rw [pk_un (by omega), pk_un (by omega), pk_us]
  rw [m_0, m_0, show (sa_I (hp S) 59 4 _) = _ from m_wn (n := 4) (by omega), a4, dnx_e hd0, show (ss_I (hp S) 59 4 _ _) = _ from m_wsn (n := 4) (by omega), sA_F, m_0, show (sa_I (hp _) 59 2 _) = _ from m_wn (n := 2) (by omega), sF_at, pk_un (by omega), a2, m_0, show (sa_I (hp _) 59 4 _) = _ from m_wn (n := 4) (by omega), sF_at, pk_us, n3 hd]
  refine ⟨by decide, by decide, ?_⟩
  by_cases h3 : dnx (bD σ.1) / 65536 % 3 = 0
  · rw [if_neg (fun q => q (by rw [h3]; rfl)), m_0, show (sa_I (hp _) 59 4 _) = _ from m_wn (n := 4) (by omega), sF_at, pk_us]
    refine ⟨by decide, ?_⟩
    rw [m_0, show (sa_I (hp _) 59 0 _) = _ from m_wn (n := 0) (by omega), sF_at, pk_un (by omega), a0]
    refine ⟨nI_ne0 (by have := ok.1; omega) (by have := ok.1; omega), ?_⟩
    have hm : dnx (bD σ.1) / 256 % bW σ.1 < bW σ.1 := Nat.mod_lt _ (by have := ok.1; omega)
    refine fin _ ?_
    rw [nw hd (by have := ok.1; omega) ok.1.2, gx_fl _ (by omega) _ (by have := ok.1; omega)]
    unfold dfb
    rw [if_pos h3]
  · rw [if_pos (show ¬ nI (dnx (bD σ.1) / 65536 % 3) = 0 from fun q => h3 ((nI_eq (a := dnx (bD σ.1) / 65536 % 3) (b := 0) (by omega) (by omega)).mp q))]
    refine fin _ ?_
    rw [Int32.xor_zero]
    unfold dfb
    rw [if_neg h3]
theorem op_drift {σ : sg} (wf : Wf σ) (x : Int32) : Op tr_X6_drift tr_X7_drift σ [.int x] := by
  rcases inb_1_40 (x := x) with ⟨h1, h2⟩ | ⟨h1, h3, h2⟩ | ⟨n, n1, n2, rfl, h1, h3, h2⟩
  · refine Op.same (-1) (fun S Q h hq => ?_) (fun S Q h hq => ?_)
    · rw [tq_X6_drift]; intro K r; unfold sm_X6_drift_0; rw [if_pos h1]; exact hq
    · rw [tq_X7_drift]; intro K r; unfold sm_X7_drift_0; rw [e_in, h2]; simp only [sr_I]; rw [if_neg (by decide)]; exact hq
  · refine Op.same (-1) (fun S Q h hq => ?_) (fun S Q h hq => ?_)
    · rw [tq_X6_drift]; intro K r; unfold sm_X6_drift_0; rw [if_neg h1, if_neg h3]; exact hq
    · rw [tq_X7_drift]; intro K r; unfold sm_X7_drift_0; rw [e_in, h2]; simp only [sr_I]; rw [if_neg (by decide)]; exact hq
  · refine ⟨nI (bB (drN n σ).1), drN n σ, fun S Q h hq => ?_, fun S Q h hq => ?_⟩
    · rw [tq_X6_drift]
      intro K37 r37
      have main : ∀ m k S1, k + m = n → Fc S S1 → CI S1 (drN k σ) → K37 0 (nI n) (nI k) (hp S1) := by
        intro m
        induction m with
        | zero =>
          intro k S1 e hf hc
          apply r37
          unfold sm_X6_drift_15
          rw [show k = n by omega] at hc ⊢
          rw [if_pos (nI_le (Nat.le_refl n) (by omega)), c_0, hq_I (k := 3) k1 rfl, hc.1.2.2.2.1]
          exact hq S1 hf hc
        | succ m ih =>
          intro k S1 e hf hc
          apply r37
          unfold sm_X6_drift_15
          rw [if_neg (nI_ge (by omega) (by omega)), c_1, c_0, p_v]
          refine i_Ckeep hc (fun S2 f2 hc2 => ?_)
          simp only [sr_V]
          rw [c_0, b_v]
          refine i_driftOn hc2.1.2 hc2.1.1 (fun S3 s3 hB3 => ?_)
          simp only [sr_V]
          rw [nI_1]
          exact ih (k + 1) S3 (by omega) ((hf.tr f2).tr (s3.fc (by simp))) (hc2.now (s3.mono (by simp)) (dB_ok hc.1.1) hB3)
      unfold sm_X6_drift_0
      rw [if_neg h1, if_pos h3]
      exact main n 0 S (by omega) (Fc.rf S) h
    · rw [tq_X7_drift]
      intro K14 r14
      have main : ∀ m k S1, k + m = n → Fm S S1 → MI S1 (drN k σ) → K14 58 (nI n) (nI k) (hp S1) := by
        intro m
        induction m with
        | zero =>
          intro k S1 e hf hc
          apply r14
          unfold sm_X7_drift_14
          rw [show k = n by omega] at hc ⊢
          rw [if_pos (nI_le (Nat.le_refl n) (by omega)), m_0, show (sa_I (hp S1) 59 2 _) = _ from m_wn (n := 2) (by omega), show S1.2.1 59 2 = _ from hc.1.2.2.1]
          exact hq S1 hf hc
        | succ m ih =>
          intro k S1 e hf hc
          apply r14
          unfold sm_X7_drift_14
          have wfk := drN_wf wf (n := k)
          rw [if_neg (nI_ge (by omega) (by omega)), m_v]
          refine i_Mkeep hc wfk (fun S2 f2 hc2 => ?_)
          simp only [sr_V]
          refine i_Mdrift hc2 (kp_wf wfk) (fun S3 f3 h3 => ?_)
          rw [nI_1]
          exact ih (k + 1) S3 (by omega) ((hf.tr f2).tr f3) h3
      unfold sm_X7_drift_0
      rw [e_in, h2]
      simp only [sr_I]
      rw [if_pos (by decide)]
      exact main n 0 S (by omega) (Fm.rf S) h
