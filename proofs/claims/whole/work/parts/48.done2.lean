/-! back, home, flip, kill, heal, move, undo -/
def bkB (B : bd) : bd := (bW B, bN B, gact (bG B (bP B - 1)) (bB B), bP B - 1, bD B, bG B)
theorem bkB_ok {B : bd} (ok : Bok B) (h : 0 < bP B) : Bok (bkB B) := ⟨ok.1, ok.2.1, gact_w (ok.2.2.2.2.2 _ (by have := ok.2.2.2.1; omega)) ok.2.2.1, by show bP B - 1 ≤ bN B; have := ok.2.2.2.1; omega, ok.2.2.2.2.1, ok.2.2.2.2.2⟩
def bkN : Nat → sg → sg
  | 0, σ => σ
  | n + 1, σ => nb (kp (bkN n σ)) (bkB (bkN n σ).1)
theorem bkN_P : ∀ (n : Nat) (σ : sg), bN (bkN n σ).1 = bN σ.1 ∧ bP (bkN n σ).1 = bP σ.1 - n
  | 0, σ => ⟨rfl, rfl⟩
  | n + 1, σ => by
    have := bkN_P n σ
    exact ⟨this.1, by show bP (bkN n σ).1 - 1 = _; rw [this.2]; omega⟩
theorem bkN_wf {σ : sg} (wf : Wf σ) : ∀ {n : Nat}, n ≤ bP σ.1 → Wf (bkN n σ)
  | 0, _ => wf
  | n + 1, h => nb_wf (kp_wf (bkN_wf wf (by omega))) (bkB_ok (bkN_wf wf (n := n) (by omega)).1 (by have := bkN_P n σ; omega))
theorem op_back {σ : sg} (wf : Wf σ) (x : Int32) : Op tr_X6_back tr_X7_back σ [.int x] := by
  have hn16 := wf.1.2.1
  have hpn := wf.1.2.2.2.1
  rcases inb_1_16 (x := x) with ⟨h1, h2⟩ | ⟨h1, h3, h2⟩ | ⟨n, n1, n2, rfl, h1, h3, h2⟩
  · refine Op.same (-1) (fun S Q h hq => ?_) (fun S Q h hq => ?_)
    · rw [tq_X6_back]; intro K r; unfold sm_X6_back_0; rw [if_pos h1]; exact hq
    · rw [tq_X7_back]; intro K r; unfold sm_X7_back_0; rw [e_in, h2]; simp only [sr_I]; rw [if_neg (by decide)]; exact hq
  · refine Op.same (-1) (fun S Q h hq => ?_) (fun S Q h hq => ?_)
    · rw [tq_X6_back]; intro K r; unfold sm_X6_back_0; rw [if_neg h1, if_neg h3]; exact hq
    · rw [tq_X7_back]; intro K r; unfold sm_X7_back_0; rw [e_in, h2]; simp only [sr_I]; rw [if_neg (by decide)]; exact hq
  · by_cases hle : n ≤ bP σ.1
    · refine ⟨nI (bB (bkN n σ).1), bkN n σ, fun S Q h hq => ?_, fun S Q h hq => ?_⟩
      · rw [tq_X6_back]
        intro K37 r37
        have main : ∀ m k S1, k + m = n → Fc S S1 → CI S1 (bkN k σ) → K37 0 (nI n) (nI k) (hp S1) := by
          intro m
          induction m with
          | zero =>
            intro k S1 e hf hc
            apply r37
            unfold sm_X6_back_29
            rw [show k = n by omega] at hc ⊢
            rw [if_pos (nI_le (Nat.le_refl n) (by omega)), c_0, hq_I (k := 3) k1 rfl, hc.1.2.2.2.1]
            exact hq S1 hf hc
          | succ m ih =>
            intro k S1 e hf hc
            apply r37
            unfold sm_X6_back_29
            have hP := bkN_P k σ
            rw [if_neg (nI_ge (by omega) (by omega)), c_1, c_0, p_v]
            refine i_Ckeep hc (fun S2 f2 hc2 => ?_)
            simp only [sr_V]
            rw [c_0, b_v]
            have hlt : 0 < bP (bkN k σ).1 := by omega
            refine i_stepBack k1 hc2.1.2 hc2.1.1 hlt (fun S3 s3 hB3 => ?_)
            simp only [sr_V]
            rw [nI_1]
            exact ih (k + 1) S3 (by omega) ((hf.tr f2).tr (s3.fc (by simp))) (hc2.now (s3.mono (by simp)) (bkB_ok hc.1.1 hlt) hB3)
        unfold sm_X6_back_0
        obtain ⟨a0, a1, a3, a4, a5, ag⟩ := h.1.2
        rw [if_neg h1, if_pos h3, c_0, hq_I (k := 4) k1 rfl, a4, if_pos (nI_le (by omega) (by omega))]
        exact main n 0 S (by omega) (Fc.rf S) h
      · rw [tq_X7_back]
        intro K34 r34
        have main : ∀ m k S1, k + m = n → Fm S S1 → MI S1 (bkN k σ) → K34 58 (nI n) (nI k) (hp S1) := by
          intro m
          induction m with
          | zero =>
            intro k S1 e hf hc
            apply r34
            unfold sm_X7_back_27
            rw [show k = n by omega] at hc ⊢
            rw [if_pos (nI_le (Nat.le_refl n) (by omega)), m_0, show (sa_I (hp S1) 59 2 _) = _ from m_wn (n := 2) (by omega), show S1.2.1 59 2 = _ from hc.1.2.2.1]
            exact hq S1 hf hc
          | succ m ih =>
            intro k S1 e hf hc
            apply r34
            unfold sm_X7_back_27
            have hP := bkN_P k σ
            have wfk := bkN_wf wf (n := k) (by omega)
            rw [if_neg (nI_ge (by omega) (by omega)), m_v]
            refine i_Mkeep hc wfk (fun S2 f2 hc2 => ?_)
            simp only [sr_V]
            have hlt : 0 < bP (bkN k σ).1 := by omega
            obtain ⟨a0, a1, a2, a3, a4, ag⟩ := hc2.1
            have hw := wfk.1.1.2
            have q1 := wfk.1.2.1
            have q2 := pw_le hw
            have q3 := wfk.1.2.2.1
            have q4 := wfk.1.2.2.2.1
            rw [m_0, show (sa_I (hp S2) 59 3 _) = _ from m_wn (n := 3) (by omega), show S2.2.1 59 3 = nI (bP (bkN k σ).1) from a3, show nI (bP (bkN k σ).1) - 1 = nI (bP (bkN k σ).1 - 1) from pk_sub (b := 1) hlt, show (ss_I (hp S2) 59 3 _ _) = _ from m_wsn (n := 3) (by omega), sA_F, m_0, m_0, show (sa_I (hp _) 59 3 _) = _ from m_wn (n := 3) (by omega), sF_at, pk_us, m_0, show (sa_I (hp _) 59 2 _) = _ from m_wn (n := 2) (by omega), sF_at, pk_un (by omega), show S2.2.1 59 2 = nI (bB (bkN k σ).1) from a2, m_v]
            have hR : Rg (sF S2 59 (upd (S2.2.1 59) 3 (nI (bP (bkN k σ).1 - 1)))) 0 (bN (bkN k σ).1) (bG (bkN k σ).1) := by
              intro g hg
              obtain ⟨b0, b1, b2, b3, b4⟩ := ag g hg
              rw [sF_at]
              exact ⟨by rw [pk_un (by omega)]; exact b0, by rw [pk_un (by omega)]; exact b1, by rw [pk_un (by omega)]; exact b2, by rw [pk_un (by omega)]; exact b3, by rw [pk_un (by omega)]; exact b4⟩
            rw [show (tr_X7_doneIn [.ref 58, .int 0, .int (nI (bP (bkN k σ).1 - 1)), .int (nI (bB (bkN k σ).1))] (hp _)) = _ from funext fun Q => e_MdoneIn (x := 0) hR (by omega) (wfk.1.2.2.2.2.2 _ (by omega)) hw (by omega) (by omega)]
            simp only [sr_I]
            rw [show (ss_I (hp _) 59 2 _ _) = _ from m_wsn (n := 2) (by omega), sA_F, sF_F, sF_at, nI_1]
            refine ih (k + 1) _ (by omega) ((hf.tr f2).tr (Fm.F (by omega))) (hc2.hd (kp_wf wfk) (fun k hk => by rw [pk_un (by omega), pk_un (by omega)]) ?_ ?_ ?_ ?_ ?_)
            · rw [pk_un (by omega), pk_un (by omega)]; exact a0
            · rw [pk_un (by omega), pk_un (by omega)]; exact a1
            · rw [pk_us]
            · rw [pk_un (by omega), pk_us]
            · rw [pk_un (by omega), pk_un (by omega)]; exact a4
        unfold sm_X7_back_0
        obtain ⟨a0, a1, a2, a3, a4, ag⟩ := h.1
        rw [e_in, h2]
        simp only [sr_I]
        rw [if_pos (by decide), m_0, show (sa_I (hp S) 59 3 _) = _ from m_wn (n := 3) (by omega), show S.2.1 59 3 = nI (bP σ.1) from a3, if_pos (nI_le hle (by omega))]
        exact main n 0 S (by omega) (Fm.rf S) h
    · refine Op.same (-2) (fun S Q h hq => ?_) (fun S Q h hq => ?_)
      · rw [tq_X6_back]; intro K r; unfold sm_X6_back_0
        obtain ⟨a0, a1, a3, a4, a5, ag⟩ := h.1.2
        rw [if_neg h1, if_pos h3, c_0, hq_I (k := 4) k1 rfl, a4, if_neg (nI_ge (by omega) (by omega))]
        exact hq
      · rw [tq_X7_back]; intro K r; unfold sm_X7_back_0
        obtain ⟨a0, a1, a2, a3, a4, ag⟩ := h.1
        rw [e_in, h2]
        simp only [sr_I]
        rw [if_pos (by decide), m_0, show (sa_I (hp S) 59 3 _) = _ from m_wn (n := 3) (by omega), show S.2.1 59 3 = nI (bP σ.1) from a3, if_neg (nI_ge (by omega) (by omega))]
        exact hq
theorem op_home {σ : sg} (wf : Wf σ) : Op tr_X6_home tr_X7_home σ [] := by
  have hn16 := wf.1.2.1
  have hpn := wf.1.2.2.2.1
  by_cases h0 : bP σ.1 = 0
  · refine Op.same (-2) (fun S Q h hq => ?_) (fun S Q h hq => ?_)
    · rw [tq_X6_home]; unfold sm_X6_home_0
      rw [c_0, hq_I (k := 4) k1 rfl, h.1.2.2.2.2.1, h0, if_neg (fun q => q rfl)]
      exact hq
    · rw [tq_X7_home]; unfold sm_X7_home_0
      rw [m_0, show (sa_I (hp S) 59 3 _) = _ from m_wn (n := 3) (by omega), show S.2.1 59 3 = nI (bP σ.1) from h.1.2.2.2.1, h0, if_neg (fun q => q rfl)]
      exact hq
  · refine ⟨nI (bP σ.1), nb (kp σ) (bW σ.1, bN σ.1, bB σ.1, 0, bD σ.1, bG σ.1), fun S Q h hq => ?_, fun S Q h hq => ?_⟩
    · rw [tq_X6_home]; unfold sm_X6_home_0
      rw [c_0, hq_I (k := 4) k1 rfl, h.1.2.2.2.2.1, if_pos (nI_ne0 (by omega) (by omega)), c_0, hq_I (k := 4) k1 rfl, h.1.2.2.2.2.1, c_1, c_0, p_v]
      refine i_Ckeep h (fun S2 f2 hc2 => ?_)
      simp only [sr_V]
      rw [c_0, hq_P (k := 4) k1 rfl]
      obtain ⟨a0, a1, a3, a4, a5, ag⟩ := hc2.1.2
      refine hq _ (f2.tr ((Sx.I (ps := [1]) (by simp)).fc (by simp))) (hc2.now (Sx.I (by simp)) ⟨wf.1.1, wf.1.2.1, wf.1.2.2.1, Nat.zero_le _, wf.1.2.2.2.2⟩ ⟨by simp [sI, a0]; rfl, by simp [sI, a1]; rfl, by simp [sI, a3]; rfl, by simp [sI]; rfl, by simp [sI, a5]; rfl, ag⟩)
    · rw [tq_X7_home]; unfold sm_X7_home_0
      rw [m_0, show (sa_I (hp S) 59 3 _) = _ from m_wn (n := 3) (by omega), show S.2.1 59 3 = nI (bP σ.1) from h.1.2.2.2.1, if_pos (nI_ne0 (by omega) (by omega)), m_v]
      refine i_Mkeep h wf (fun S2 f2 hc2 => ?_)
      simp only [sr_V]
      obtain ⟨a0, a1, a2, a3, a4, ag⟩ := hc2.1
      rw [m_0, show (sa_I (hp S2) 59 3 _) = _ from m_wn (n := 3) (by omega), show S2.2.1 59 3 = nI (bP σ.1) from a3, m_0, show (ss_I (hp S2) 59 3 _ _) = _ from m_wsn (n := 3) (by omega), sA_F]
      refine hq _ (f2.tr (Fm.F (by omega))) (hc2.hd (kp_wf wf) (fun k hk => pk_un (by omega)) ?_ ?_ ?_ ?_ ?_)
      · rw [pk_un (by omega)]; exact a0
      · rw [pk_un (by omega)]; exact a1
      · rw [pk_un (by omega)]; exact a2
      · rw [pk_us]; rfl
      · rw [pk_un (by omega)]; exact a4
theorem op_flip {σ : sg} (wf : Wf σ) (x : Int32) : Op tr_X6_flip tr_X7_flip σ [.int x] := by
  have hw := wf.1.1.2
  have q2 := pw_le hw
  have q3 := wf.1.2.2.1
  rcases inb_nat (x := x) (n := bW σ.1) (by omega) with ⟨j, hj, rfl, e⟩ | ⟨hj, e⟩
  · refine ⟨nI (bB σ.1 ^^^ 2 ^ j), nb (kp σ) (bW σ.1, bN σ.1, bB σ.1 ^^^ 2 ^ j, bP σ.1, bD σ.1, bG σ.1), fun S Q h hq => ?_, fun S Q h hq => ?_⟩
    · rw [tq_X6_flip]; unfold sm_X6_flip_0
      rw [c_v, e_CisWire h.1.2 h.1.1, e]
      simp only [sr_I]
      rw [if_pos (by decide), c_1, c_0, p_v]
      refine i_Ckeep h (fun S2 f2 hc2 => ?_)
      simp only [sr_V]
      rw [c_0, b_v]
      refine i_turnOver k1 hc2.1.2 hc2.1.1 hj (fun S3 s3 hB3 => ?_)
      simp only [sr_V]
      rw [c_0, hq_I (k := 3) k1 rfl, hB3.2.2.1]
      exact hq _ (f2.tr (s3.fc (by simp))) (hc2.now (s3.mono (by simp)) ⟨wf.1.1, wf.1.2.1, Nat.xor_lt_two_pow q3 (p2lt hj), wf.1.2.2.2⟩ hB3)
    · rw [tq_X7_flip]; unfold sm_X7_flip_0
      rw [m_v, e_MisWire h.1, e]
      simp only [sr_I]
      rw [if_pos (by decide), m_v]
      refine i_Mkeep h wf (fun S2 f2 hc2 => ?_)
      simp only [sr_V]
      obtain ⟨a0, a1, a2, a3, a4, ag⟩ := hc2.1
      rw [m_0, show (sa_I (hp S2) 59 2 _) = _ from m_wn (n := 2) (by omega), show S2.2.1 59 2 = nI (bB σ.1) from a2, gx_fl _ (by omega) _ (by omega), show (ss_I (hp S2) 59 2 _ _) = _ from m_wsn (n := 2) (by omega), sA_F, m_0, show (sa_I (hp _) 59 2 _) = _ from m_wn (n := 2) (by omega), sF_at, pk_us]
      refine hq _ (f2.tr (Fm.F (by omega))) (hc2.hd (kp_wf wf) (fun k hk => pk_un (by omega)) ?_ ?_ ?_ ?_ ?_)
      · rw [pk_un (by omega)]; exact a0
      · rw [pk_un (by omega)]; exact a1
      · rw [pk_us]
      · rw [pk_un (by omega)]; exact a3
      · rw [pk_un (by omega)]; exact a4
  · refine Op.same (-1) (fun S Q h hq => ?_) (fun S Q h hq => ?_)
    · rw [tq_X6_flip]; unfold sm_X6_flip_0
      rw [c_v, e_CisWire h.1.2 h.1.1, e]
      simp only [sr_I]
      rw [if_neg (by decide)]
      exact hq
    · rw [tq_X7_flip]; unfold sm_X7_flip_0
      rw [m_v, e_MisWire h.1, e]
      simp only [sr_I]
      rw [if_neg (by decide)]
      exact hq
theorem op_undo {σ : sg} (wf : Wf σ) : Op tr_X6_undo tr_X7_undo σ [] := by
  obtain ⟨B0, l, r⟩ := σ
  cases l with
  | nil =>
    refine Op.same (-4) (fun S Q h hq => ?_) (fun S Q h hq => ?_)
    · rw [tq_X6_undo]; unfold sm_X6_undo_0
      rw [c_1, c_0, p_v]
      refine i_giveBack_0 k3 h.2.1 ?_
      simp only [sr_I]
      rw [if_pos (by decide)]
      exact hq
    · rw [tq_X7_undo]; unfold sm_X7_undo_0
      rw [m_0, show (sa_I (hp S) 59 765 _) = _ from m_wn (n := 765) (by omega), show S.2.1 59 765 = nI 0 from by have := h.2.1.2.1; rw [Nat.zero_add] at this; exact this, if_neg (fun q => q rfl)]
      exact hq
  | cons B l =>
    have hl8 : l.length + 1 ≤ 8 := wf.2.1
    refine ⟨nI l.length, (B, l, r), fun S Q h hq => ?_, fun S Q h hq => ?_⟩
    · rw [tq_X6_undo]; unfold sm_X6_undo_0
      rw [c_1, c_0, p_v]
      refine i_giveBack k3 k1 (fun i hi => by omega) h.2.1 (fun S2 s2 hP okB hB => ?_)
      simp only [sr_I]
      rw [if_neg (by decide), c_1, hq_I (k := 2) k3 rfl]
      obtain ⟨p0, nx, p1, p2, p3, p4⟩ := id hP
      rw [p3]
      exact hq _ (s2.fc (by simp)) (h.upd (fun q h1 h2 => s2 q (by simp; omega)) ⟨okB, hB⟩ hP)
    · rw [tq_X7_undo]; unfold sm_X7_undo_0
      obtain ⟨p0, p1, p2⟩ := h.2.1
      have p1 : S.2.1 59 765 = nI (l.length + 1) := by rw [Nat.zero_add] at p1; exact p1
      rw [m_0, show (sa_I (hp S) 59 765 _) = _ from m_wn (n := 765) (by omega), p1, if_pos (nI_ne0 (by omega) (by omega)), m_0, show (sa_I (hp S) 59 765 _) = _ from m_wn (n := 765) (by omega), p1, nI_pred, show (ss_I (hp S) 59 765 _ _) = _ from m_wsn (n := 765) (by omega), sA_F, m_0, show (sa_I (hp _) 59 765 _) = _ from m_wn (n := 765) (by omega), sF_at, pk_us, m_v, show (85 : Int32) + 85 * nI l.length = nI (85 + 85 * l.length) by rw [show (85 : Int32) = nI 85 from rfl, pk_mul, nI_add]]
      refine i_copyRow (y := 0) (m := 85) (by omega) (by omega) (by omega) ?_
      simp only [sr_V]
      rw [m_0, show (sa_I (hp _) 59 765 _) = _ from m_wn (n := 765) (by omega), sF_at, sF_at, sF_F, wcp_out (by omega), pk_us]
      refine hq _ (Fm.F (by omega)) ?_
      have okB := wf.2.2.1 0 B rfl
      have hB : wrow (S.2.1 59) (0 + 85 + 85 * ((B :: l).length - 1 - 0)) B := p2 0 B rfl
      have hB2 : wrow (wcp (upd (S.2.1 59) 765 (nI l.length)) (85 + 85 * l.length) 0 85) 0 B := hB.at okB.2.1 (fun k hk => by
        rw [wcp_in (by omega), show 85 + 85 * l.length + (0 + k - 0) = 0 + 85 + 85 * ((B :: l).length - 1 - 0) + k by simp, pk_un (by simp; omega)])
      have hP2 : wpast (wcp (upd (S.2.1 59) 765 (nI l.length)) (85 + 85 * l.length) 0 85) 0 l := by
        refine ⟨by omega, by rw [wcp_out (by omega), Nat.zero_add, pk_us], fun j C hj => ?_⟩
        have hjl : j < l.length := (List.getElem?_eq_some_iff.mp hj).1
        have hj' : (B :: l)[j + 1]? = some C := by simpa using hj
        refine wrow.at (f := S.2.1 59) (p2 (j + 1) C hj') (wf.2.2.1 (j + 1) C hj').2.1 (fun k hk => ?_)
        rw [wcp_out (by omega), pk_un (by omega), show 0 + 85 + 85 * ((B :: l).length - 1 - (j + 1)) + k = 0 + 85 + 85 * (l.length - 1 - j) + k by rw [List.length_cons]; omega]
      exact MI.w (σ := (B0, B :: l, r)) h wf (fun k h1 _ => by rw [wcp_out (by omega), pk_un (by omega)]) hB2 hP2
