/-! wires, goes, image, restore -/
def wz (f : Nat → Int32) (m : Nat) : Nat → Int32 := fun k => if k < m then 0 else f k
theorem i_Mclear {S : st_S} {σ : sg} (h : MI S σ) (wf : Wf σ) {w : Nat} {Q : aw_R} (hq : ∀ S', Fm S S' → MI S' ((w, 0, 0, 0, bD σ.1, bG σ.1), [], σ.2.2) → Q none (hp S')) : tr_X7_clear [.ref 58, .int (nI w)] (hp S) Q := by
  rw [tq_X7_clear]
  intro K9 r9
  obtain ⟨a0, a1, a2, a3, a4, ag⟩ := h.1
  have main : ∀ r k, k + r = 766 → K9 58 (nI w) (nI (bD σ.1)) (nI k) (hp (sF S 59 (wz (S.2.1 59) k))) := by
    intro r
    induction r with
    | zero =>
      intro k e
      apply r9
      unfold sm_X7_clear_9
      rw [if_pos (show (766 : Int32) ≤ nI k from nI_le (a := 766) (by omega) (by omega)), m_0, show (ss_I (hp _) 59 0 _ _) = _ from m_wsn (n := 0) (by omega), sA_F, sF_F, m_0, show (ss_I (hp _) 59 4 _ _) = _ from m_wsn (n := 4) (by omega), sA_F, sF_F, sF_at, sF_at, show k = 766 by omega]
      refine hq _ (Fm.F (by omega)) (h.w wf (fun k h1 _ => ?_) ⟨?_, ?_, ?_, ?_, ?_, fun g hg => absurd hg (Nat.not_lt_zero g)⟩ ⟨by simp, ?_, fun j B hj => by simp at hj⟩)
      · rw [pk_un (by omega), pk_un (by omega)]
        exact if_neg (by omega)
      · rw [pk_un (by omega), pk_us]
      · rw [pk_un (by omega), pk_un (by omega)]
        rfl
      · rw [pk_un (by omega), pk_un (by omega)]
        rfl
      · rw [pk_un (by omega), pk_un (by omega)]
        rfl
      · rw [Nat.zero_add, pk_us]
      · rw [pk_un (by omega), pk_un (by omega)]
        rfl
    | succ r ih =>
      intro k e
      apply r9
      unfold sm_X7_clear_9
      rw [if_neg (show ¬ (766 : Int32) ≤ nI k from nI_ge (b := 766) (by omega) (by omega)), m_0, m_wsn (by omega), sA_F, sF_F, sF_at, nI_1]
      have e1 : upd (wz (S.2.1 59) k) k 0 = wz (S.2.1 59) (k + 1) := by
        funext j
        by_cases hj : j = k
        · subst hj
          rw [pk_us]
          exact (if_pos (by omega)).symm
        · rw [pk_un hj]
          unfold wz
          by_cases h1 : j < k
          · rw [if_pos h1, if_pos (by omega)]
          · rw [if_neg h1, if_neg (by omega)]
      rw [e1]
      exact ih (k + 1) (by omega)
  have h0 : sF S 59 (wz (S.2.1 59) 0) = S := by
    have : wz (S.2.1 59) 0 = S.2.1 59 := by
      funext j
      exact if_neg (by omega)
    rw [this, sF_self]
  unfold sm_X7_clear_0
  rw [m_0, show (sa_I (hp S) 59 4 _) = _ from m_wn (n := 4) (by omega), show S.2.1 59 4 = nI (bD σ.1) from a4]
  have := main 766 0 (by omega)
  rw [h0] at this
  exact this
theorem op_wires {σ : sg} (wf : Wf σ) (x : Int32) : Op tr_X6_wires tr_X7_wires σ [.int x] := by
  by_cases h1 : x < 2
  · refine Op.same (-1) (fun S Q h hq => ?_) (fun S Q h hq => ?_)
    · rw [tq_X6_wires]; unfold sm_X6_wires_0; rw [if_pos h1]; exact hq
    · rw [tq_X7_wires]; unfold sm_X7_wires_0
      rw [e_in, show inb x 2 6 = 0 from if_pos h1]
      simp only [sr_I]
      rw [if_neg (by decide)]
      exact hq
  · by_cases h2 : x ≤ 6
    · obtain ⟨n, n1, n2, rfl⟩ : ∃ n, 2 ≤ n ∧ n ≤ 6 ∧ x = nI n := by
        rw [Int32.lt_iff_toInt_lt] at h1
        have h1 : ¬ x.toInt < 2 := h1
        have h2 : x.toInt ≤ 6 := Int32.le_iff_toInt_le.mp h2
        refine ⟨x.toInt.toNat, by omega, by omega, Int32.toInt_inj.mp ?_⟩
        rw [nI_toInt (by omega)]
        omega
      have ok' : Bok (n, 0, 0, 0, bD σ.1, bG σ.1) := ⟨⟨n1, n2⟩, Nat.zero_le _, Nat.two_pow_pos n, Nat.le_refl _, wf.1.2.2.2.2.1, fun g hg => absurd hg (Nat.not_lt_zero g)⟩
      refine ⟨nI (bW σ.1), ((n, 0, 0, 0, bD σ.1, bG σ.1), [], σ.2.2), fun S Q h hq => ?_, fun S Q h hq => ?_⟩
      · rw [tq_X6_wires]; unfold sm_X6_wires_0
        rw [if_neg h1, if_pos h2, c_0, hq_I (k := 0) k1 rfl, h.1.2.1, c_0, b_v]
        refine i_clear k1 h.1.2 (fun S2 s2 hB2 => ?_)
        simp only [sr_V]
        rw [c_1, p_v, e_forget k3]
        simp only [sr_V]
        have hP2 : Po S2 3 σ.2.1 := h.2.1.kept (fun q q1 q2 => s2 q (by simp; omega))
        refine hq _ ((s2.fc (by simp)).tr ((Sx.I (ps := [3]) (by simp)).fc (by simp))) (h.upd (fun q q1 q2 => (s2 q (by simp; omega)).tr (Sa.I (by omega))) ⟨ok', hB2.kept (Sa.I (by omega)) (Sa.I (by omega))⟩ hP2.forget)
      · rw [tq_X7_wires]; unfold sm_X7_wires_0
        rw [e_in, inb_1.mpr ⟨Int32.le_iff_toInt_le.mpr (by rw [Int32.lt_iff_toInt_lt] at h1; omega), h2⟩]
        simp only [sr_I]
        rw [if_pos (by decide), m_0, show (sa_I (hp S) 59 0 _) = _ from m_wn (n := 0) (by omega), show S.2.1 59 0 = nI (bW σ.1) from h.1.1, m_v]
        refine i_Mclear h wf (fun S' f' h' => ?_)
        simp only [sr_V]
        exact hq S' f' h'
    · refine Op.same (-1) (fun S Q h hq => ?_) (fun S Q h hq => ?_)
      · rw [tq_X6_wires]; unfold sm_X6_wires_0; rw [if_neg h1, if_neg h2]; exact hq
      · rw [tq_X7_wires]; unfold sm_X7_wires_0
        have : inb x 2 6 = 0 := by
          rcases inb_01 x 2 6 with q | q
          · exact q
          · exact absurd (inb_1.mp q).2 h2
        rw [e_in, this]
        simp only [sr_I]
        rw [if_neg (by decide)]
        exact hq
/-- 0 or 1, or not -/
theorem in01 (x : Int32) : (x = 0 ∧ inb x 0 1 = 1) ∨ (x = 1 ∧ inb x 0 1 = 1) ∨ (inb x 0 1 = 0 ∧ (x < 0 ∨ ¬ x ≤ 1)) := by
  by_cases h1 : x < 0
  · exact Or.inr (Or.inr ⟨if_pos h1, Or.inl h1⟩)
  · by_cases h2 : x ≤ 1
    · have e : inb x 0 1 = 1 := inb_1.mpr ⟨Int32.le_iff_toInt_le.mpr (by rw [Int32.lt_iff_toInt_lt] at h1; omega), h2⟩
      rw [Int32.lt_iff_toInt_lt] at h1
      have h1 : ¬ x.toInt < 0 := h1
      have h2 : x.toInt ≤ 1 := Int32.le_iff_toInt_le.mp h2
      rcases (show x.toInt = 0 ∨ x.toInt = 1 by omega) with q | q
      · exact Or.inl ⟨Int32.toInt_inj.mp q, e⟩
      · exact Or.inr (Or.inl ⟨Int32.toInt_inj.mp q, e⟩)
    · refine Or.inr (Or.inr ⟨?_, Or.inr h2⟩)
      rcases inb_01 x 0 1 with q | q
      · exact q
      · exact absurd (inb_1.mp q).2 h2
theorem op_goes {σ : sg} (wf : Wf σ) (x y : Int32) : Op tr_X6_goes tr_X7_goes σ [.int x, .int y] := by
  have hn := wf.1.2.1
  have hw := wf.1.1.2
  have h64 := pw_le hw
  have hg := wf.1.2.2.2.2.2
  rcases inb_nat (x := x) (n := 2 ^ bW σ.1) (by omega) with ⟨s, hs, hx, ex⟩ | ⟨hs, ex⟩
  · rcases in01 y with ⟨hy, ey⟩ | ⟨hy, ey⟩ | ⟨ey, hy⟩
    · refine Op.same (nI (grun (bG σ.1) (bN σ.1) s)) (fun S Q h hq => ?_) (fun S Q h hq => ?_)
      · rw [tq_X6_goes]; unfold sm_X6_goes_0
        rw [c_v, e_CisState h.1.2 h.1.1, ex]
        simp only [sr_I]
        rw [if_neg (by decide), hy, if_neg (by decide), if_pos (by decide), if_neg (by decide), c_0, b_v, hx]
        refine i_run k1 h.1.2 wf.1 (by omega) ?_
        exact hq
      · rw [tq_X7_goes]; intro K r; unfold sm_X7_goes_0
        rw [m_v, e_MisState h.1 wf.1, ex]
        simp only [sr_I]
        rw [if_neg (by decide), e_in, ey]
        simp only [sr_I]
        rw [if_pos (by decide), if_neg (by rw [hy]; decide), m_v, hx]
        refine i_MrunIn (x := 0) h.1.g h.1.2.1 hn hg hw (by omega) (by omega) ?_
        exact hq
    · refine Op.same (nI (gback (bG σ.1) (bN σ.1) s)) (fun S Q h hq => ?_) (fun S Q h hq => ?_)
      · rw [tq_X6_goes]; unfold sm_X6_goes_0
        rw [c_v, e_CisState h.1.2 h.1.1, ex]
        simp only [sr_I]
        rw [if_neg (by decide), hy, if_neg (by decide), if_pos (by decide), if_pos (by decide), c_0, b_v, hx]
        refine i_runBack k1 h.1.2 wf.1 (by omega) ?_
        exact hq
      · rw [tq_X7_goes]; intro K r
        have main : ∀ m t, m ≤ bN σ.1 → t < 64 → gback (bG σ.1) m t = gback (bG σ.1) (bN σ.1) s → K 58 (nI t) (nI m - 1) (hp S) := by
          intro m
          induction m with
          | zero =>
            intro t hm ht e
            apply r
            unfold sm_X7_goes_42
            rw [if_pos (by decide), show t = gback (bG σ.1) (bN σ.1) s from e]
            exact hq
          | succ m ih =>
            intro t hm ht e
            apply r
            unfold sm_X7_goes_42
            rw [nI_pred, if_neg (nI_pos (by omega)), m_v]
            rw [show (tr_X7_doneIn [.ref 58, .int 0, .int (nI m), .int (nI t)] (hp S)) = _ from funext fun Q => e_MdoneIn (x := 0) h.1.g (by omega) (hg m (by omega)) hw ht (by omega)]
            simp only [sr_I]
            rw [← Int32.sub_eq_add_neg]
            exact ih _ (by omega) (gact_lt (hg m (by omega)) hw ht) e
        unfold sm_X7_goes_0
        rw [m_v, e_MisState h.1 wf.1, ex]
        simp only [sr_I]
        rw [if_neg (by decide), e_in, ey]
        simp only [sr_I]
        rw [if_pos (by decide), if_pos (by rw [hy]; decide), m_0, show (sa_I (hp S) 59 1 _) = _ from m_wn (n := 1) (by omega), show S.2.1 59 1 = nI (bN σ.1) from h.1.2.1, hx]
        exact main (bN σ.1) s (Nat.le_refl _) (by omega) rfl
    · refine Op.same (-1) (fun S Q h hq => ?_) (fun S Q h hq => ?_)
      · rw [tq_X6_goes]; unfold sm_X6_goes_0
        rw [c_v, e_CisState h.1.2 h.1.1, ex]
        simp only [sr_I]
        rw [if_neg (by decide)]
        rcases hy with hy | hy
        · rw [if_pos hy]; exact hq
        · rw [if_neg hy]
          split <;> exact hq
      · rw [tq_X7_goes]; intro K r; unfold sm_X7_goes_0
        rw [m_v, e_MisState h.1 wf.1, ex]
        simp only [sr_I]
        rw [if_neg (by decide), e_in, ey]
        simp only [sr_I]
        rw [if_neg (by decide)]
        exact hq
  · refine Op.same (-1) (fun S Q h hq => ?_) (fun S Q h hq => ?_)
    · rw [tq_X6_goes]; unfold sm_X6_goes_0
      rw [c_v, e_CisState h.1.2 h.1.1, ex]
      simp only [sr_I]
      rw [if_pos (by decide)]
      exact hq
    · rw [tq_X7_goes]; intro K r; unfold sm_X7_goes_0
      rw [m_v, e_MisState h.1 wf.1, ex]
      simp only [sr_I]
      rw [if_pos (by decide)]
      exact hq
theorem op_image {σ : sg} (wf : Wf σ) : Op tr_X6_image tr_X7_image σ [] := by
  refine ⟨1, (σ.1, σ.2.1, some (σ.1, σ.2.1), σ.2.2.2), fun S Q h hq => ?_, fun S Q h hq => ?_⟩
  · rw [tq_X6_image]; unfold sm_X6_image_0
    obtain ⟨h1, h2, h3, h4, h5⟩ := h
    rw [c_2, c_0, hv_O (p := 21) (ci := 0) rfl (by decide)]
    refine i_becomes (p0 := 21) rfl k1 (by omega) h1.2 h1.1 (fun S2 s2 hB2 => ?_)
    simp only [sr_V]
    rw [c_3, c_1, hv_O (p := 23) (ci := 2) rfl (by decide)]
    have hP2 : Po S2 3 σ.2.1 := h2.kept (fun q q1 q2 => s2 q (by simp; omega))
    refine i_Pbecomes (p0 := 23) rfl k3 (by omega) hP2 (fun S3 s3 hP3 => ?_)
    simp only [sr_V]
    rw [hq_P (p := 0) (ci := 5) (k := 5) rfl rfl]
    have ff : ∀ q, q ≠ 0 → q ≠ 21 → q ≠ 22 → ¬ (23 ≤ q ∧ q < 41) → Sa S (sI S3 0 5 1) q := fun q q1 q2 q3 q4 => ((s2 q (by simp; omega)).tr (s3 q q4)).tr (Sa.I q1)
    refine hq _ (fun q hq' => ff q (by omega) (by omega) (by omega) (by omega)) ⟨⟨h1.1, h1.2.kept (ff _ (by omega) (by omega) (by omega) (by omega)) (ff _ (by omega) (by omega) (by omega) (by omega))⟩, h2.kept (fun q q1 q2 => ff q (by omega) (by omega) (by omega) (by omega)), ⟨by simp [sI], ⟨h1.1, (hB2.kept (s3 _ (by omega)) (s3 _ (by omega))).kept (Sa.I (by omega)) (Sa.I (by omega))⟩, hP3.kept (fun q q1 q2 => Sa.I (by omega))⟩, ?_, fun i hi => (h5 i hi).kept (ff _ (by omega) (by omega) (by omega) (by omega)) (ff _ (by omega) (by omega) (by omega) (by omega))⟩
    show To _ σ.2.2.2.1
    unfold To
    rw [(ff 41 (by omega) (by omega) (by omega) (by omega)).1, (ff 42 (by omega) (by omega) (by omega) (by omega)).2.1]
    exact h4
  · rw [tq_X7_image]; unfold sm_X7_image_0
    obtain ⟨h1, h2, h3, h4, h5⟩ := h
    rw [m_v]
    refine i_copyRow (x := 0) (y := 766) (m := 766) (by omega) (by omega) (by omega) ?_
    simp only [sr_V]
    rw [hq_P (k := 1) k58 rfl]
    have lo : ∀ k, k < 766 → wcp (S.2.1 59) 0 766 766 k = S.2.1 59 k := fun k hk => wcp_out (by omega)
    have hi : ∀ k, k < 766 → wcp (S.2.1 59) 0 766 766 (766 + k) = S.2.1 59 k := fun k hk => by rw [wcp_in (by omega), show 0 + (766 + k - 766) = k by omega]
    have past : ∀ x y (f : Nat → Int32), wpast (S.2.1 59) x σ.2.1 → (∀ k, k < 766 → f (y + k) = S.2.1 59 (x + k)) → wpast f y σ.2.1 := by
      intro x y f hp' e
      obtain ⟨a, b, c⟩ := hp'
      refine ⟨a, by rw [e 765 (by omega)]; exact b, fun j C hj => ?_⟩
      have hjl : j < σ.2.1.length := (List.getElem?_eq_some_iff.mp hj).1
      refine (c j C hj).at (wf.2.2.1 j C hj).2.1 (fun k hk => ?_)
      have := e (85 + 85 * (σ.2.1.length - 1 - j) + k) (by have := wf.2.1; omega)
      rw [show y + (85 + 85 * (σ.2.1.length - 1 - j) + k) = y + 85 + 85 * (σ.2.1.length - 1 - j) + k by omega, show x + (85 + 85 * (σ.2.1.length - 1 - j) + k) = x + 85 + 85 * (σ.2.1.length - 1 - j) + k by omega] at this
      exact this
    refine hq _ ((Fm.F (by omega)).tr (Fm.I (by omega))) ⟨?_, ?_, ⟨by simp [sI], ?_, ?_⟩, ?_, ?_⟩
    · show wrow (wcp (S.2.1 59) 0 766 766) 0 σ.1
      exact wrow.at (f := S.2.1 59) h1 wf.1.2.1 (fun k hk => by rw [Nat.zero_add]; exact lo k (by omega))
    · exact past 0 0 (wcp (S.2.1 59) 0 766 766) h2 (fun k hk => by rw [Nat.zero_add]; exact lo k hk)
    · show wrow (wcp (S.2.1 59) 0 766 766) 766 σ.1
      exact wrow.at (f := S.2.1 59) h1 wf.1.2.1 (fun k hk => by rw [Nat.zero_add]; exact hi k (by omega))
    · exact past 0 766 (wcp (S.2.1 59) 0 766 766) h2 (fun k hk => by rw [Nat.zero_add]; exact hi k hk)
    · exact h4
    · exact h5
theorem op_restore {σ : sg} (wf : Wf σ) : Op tr_X6_restore tr_X7_restore σ [] := by
  obtain ⟨B0, l0, im, r⟩ := σ
  cases im with
  | none =>
    refine Op.same (-4) (fun S Q h hq => ?_) (fun S Q h hq => ?_)
    · rw [tq_X6_restore]; unfold sm_X6_restore_0
      have h3 : S.1 0 5 = 0 := h.2.2.1
      rw [hq_I (p := 0) (ci := 5) (k := 5) rfl rfl, h3, if_neg (fun q => q rfl)]
      exact hq
    · rw [tq_X7_restore]; unfold sm_X7_restore_0
      have h3 : S.1 58 1 = 0 := h.2.2.1
      rw [hq_I (k := 1) k58 rfl, h3, if_neg (fun q => q rfl)]
      exact hq
  | some bl =>
    obtain ⟨b, l⟩ := bl
    obtain ⟨wb, wl1, wl2⟩ := wf.2.2.2.1 b l rfl
    refine ⟨1, (b, l, some (b, l), r), fun S Q h hq => ?_, fun S Q h hq => ?_⟩
    · rw [tq_X6_restore]; unfold sm_X6_restore_0
      obtain ⟨h1, h2, ⟨h31, h32, h33⟩, h4, h5⟩ := id h
      rw [hq_I (p := 0) (ci := 5) (k := 5) rfl rfl, h31, if_pos (by decide), c_0, c_2, b_v]
      refine i_becomes (p1 := 21) k1 rfl (by omega) h32.2 h32.1 (fun S2 s2 hB2 => ?_)
      simp only [sr_V]
      rw [c_1, c_3, p_v]
      have hP2 : Po S2 23 l := h33.kept (fun q q1 q2 => s2 q (by simp; omega))
      refine i_Pbecomes (p1 := 23) k3 rfl (by omega) hP2 (fun S3 s3 hP3 => ?_)
      simp only [sr_V]
      have ff : ∀ q, (q = 0 ∨ 21 ≤ q) → Sa S S3 q := fun q q1 => (s2 q (by simp; omega)).tr (s3 q (by omega))
      exact hq _ (fun q hq' => ff q (by omega)) (CI.upd (σ := (B0, l0, some (b, l), r)) h (fun q q1 _ => ff q q1) ⟨wb, hB2.kept (s3 _ (by omega)) (s3 _ (by omega))⟩ hP3)
    · rw [tq_X7_restore]; unfold sm_X7_restore_0
      obtain ⟨h1, h2, ⟨h31, h32, h33⟩, h4, h5⟩ := id h
      rw [hq_I (k := 1) k58 rfl, h31, if_pos (by decide), m_v]
      refine i_copyRow (x := 766) (y := 0) (m := 766) (by omega) (by omega) (by omega) ?_
      simp only [sr_V]
      have lo : ∀ k, k < 766 → wcp (S.2.1 59) 766 0 766 k = S.2.1 59 (766 + k) := fun k hk => by rw [wcp_in (by omega), show 766 + (k - 0) = 766 + k by omega]
      refine hq _ (Fm.F (by omega)) (MI.w (σ := (B0, l0, some (b, l), r)) h wf (fun k h1 _ => wcp_out (by omega)) ?_ ?_)
      · exact wrow.at (f := S.2.1 59) h32 wb.2.1 (fun k hk => by rw [Nat.zero_add]; exact lo k (by omega))
      · obtain ⟨a, b', c⟩ := h33
        refine ⟨a, by rw [Nat.zero_add, lo 765 (by omega)]; exact b', fun j C hj => ?_⟩
        have hjl : j < l.length := (List.getElem?_eq_some_iff.mp hj).1
        refine wrow.at (f := S.2.1 59) (c j C hj) (wl2 j C hj).2.1 (fun k hk => ?_)
        rw [lo _ (by omega), show 766 + (0 + 85 + 85 * (l.length - 1 - j) + k) = 766 + 85 + 85 * (l.length - 1 - j) + k by omega]
