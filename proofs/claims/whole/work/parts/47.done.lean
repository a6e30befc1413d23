/-! WHAT IS DONE: step, back, home, flip, kill, heal, move, undo -/
theorem p2lt {a w : Nat} (h : a < w) : 2 ^ a < 2 ^ w := Nat.pow_lt_pow_right (by decide) h
theorem gact_w {w : Nat} {g : gt} (hg : gok w g) {s : Nat} (hs : s < 2 ^ w) : gact g s < 2 ^ w := by
  obtain ⟨k, a, b, c, d⟩ := g
  obtain ⟨hk, ha, hb, hc, hd, -⟩ := hg
  dsimp only at *
  have h1 : s ^^^ 2 ^ a < 2 ^ w := Nat.xor_lt_two_pow hs (p2lt ha)
  have h2 : s ^^^ (2 ^ a ||| 2 ^ b) < 2 ^ w := Nat.xor_lt_two_pow hs (Nat.or_lt_two_pow (p2lt ha) (p2lt hb))
  unfold gact gchg
  dsimp only
  repeat' split
  all_goals first | exact hs | exact h1 | exact h2
theorem grun_w {w : Nat} {γ : Nat → gt} : ∀ {n : Nat}, (∀ g, g < n → gok w (γ g)) → ∀ {s : Nat}, s < 2 ^ w → grun γ n s < 2 ^ w
  | 0, _, s, hs => hs
  | n + 1, hg, s, hs => gact_w (hg n (by omega)) (grun_w (fun g h => hg g (by omega)) hs)
/-- what stands is kept to be undone -/
def kp (σ : sg) : sg := (σ.1, (σ.1 :: σ.2.1).take 8, σ.2.2)
theorem i_Ckeep {S : st_S} {σ : sg} (h : CI S σ) {Q : aw_R} (hq : ∀ S', Fc S S' → CI S' (kp σ) → Q none (hp S')) : tr_X3_keep [.ref 3, .ref 1] (hp S) Q := by
  refine i_keep k3 k1 (fun i hi => by omega) h.2.1 h.1.2 h.1.1 (fun S' hs hP => ?_)
  exact hq S' (hs.fc (by omega)) (h.upd (fun q h1 h2 => hs q (by omega)) ⟨h.1.1, h.1.2.kept (hs 1 (by omega)) (hs 2 (by omega))⟩ hP)
theorem i_Mkeep {S : st_S} {σ : sg} (h : MI S σ) (wf : Wf σ) {Q : aw_R} (hq : ∀ S', Fm S S' → MI S' (kp σ) → Q none (hp S')) : tr_X7_remember [.ref 58] (hp S) Q := by
  refine i_remember h.1 wf.1 wf.2.2.1 h.2.1 (fun f f1 f2 f3 => ?_)
  refine hq _ (Fm.F (by omega)) (h.w wf (fun k h1 _ => f2 k h1) ?_ f3)
  exact wrow.at (f := S.2.1 59) h.1 wf.1.2.1 (fun k hk => by rw [Nat.zero_add]; exact f1 k hk)
theorem kp_wf {σ : sg} (wf : Wf σ) : Wf (kp σ) := by
  obtain ⟨h1, h2, h3, h4⟩ := wf
  refine ⟨h1, by show ((σ.1 :: σ.2.1).take 8).length ≤ 8; rw [List.length_take]; omega, fun j B hj => ?_, h4⟩
  have hj : ((σ.1 :: σ.2.1).take 8)[j]? = some B := hj
  rw [List.getElem?_take] at hj
  split at hj
  · cases j with
    | zero => simp at hj; subst hj; exact h1
    | succ j => exact h3 j B (by simpa using hj)
  · cases hj
/-- another board now -/
def nb (σ : sg) (B : bd) : sg := (B, σ.2)
theorem nb_wf {σ : sg} (wf : Wf σ) {B : bd} (ok : Bok B) : Wf (nb σ B) := ⟨ok, wf.2⟩
theorem CI.now {S S' : st_S} {σ : sg} {B : bd} (h : CI S σ) (hs : Sx [1, 2] S S') (ok : Bok B) (hB : Bo S' 1 B) : CI S' (nb σ B) := h.upd (fun q h1 _ => hs q (by simp; omega)) ⟨ok, hB⟩ (h.2.1.kept (fun q h1 h2 => hs q (by simp; omega)))
theorem MI.row {S : st_S} {σ : sg} {B : bd} {f : Nat → Int32} (h : MI S σ) (wf : Wf σ) (e : ∀ k, 85 ≤ k → f k = S.2.1 59 k) (hB : wrow f 0 B) : MI (sF S 59 f) (nb σ B) := by
  refine h.w wf (fun k h1 _ => e k (by omega)) hB ?_
  obtain ⟨p0, p1, p2⟩ := h.2.1
  exact ⟨p0, by rw [e _ (by omega)]; exact p1, fun j C hj => wrow.at (f := S.2.1 59) (p2 j C hj) (wf.2.2.1 j C hj).2.1 (fun k hk => e _ (by omega))⟩
theorem MI.hd {S : st_S} {σ : sg} {f : Nat → Int32} {w b pl dr : Nat} (h : MI S σ) (wf : Wf σ) (e : ∀ k, 5 ≤ k → f k = S.2.1 59 k) (h0 : f 0 = nI w) (h1 : f 1 = nI (bN σ.1)) (h2 : f 2 = nI b) (h3 : f 3 = nI pl) (h4 : f 4 = nI dr) : MI (sF S 59 f) (nb σ (w, bN σ.1, b, pl, dr, bG σ.1)) := by
  refine h.row wf (fun k hk => e k (by omega)) ⟨h0, h1, h2, h3, h4, fun g hg => ?_⟩
  obtain ⟨b0, b1, b2, b3, b4⟩ := h.1.2.2.2.2.2 g hg
  exact ⟨by rw [e _ (by omega)]; exact b0, by rw [e _ (by omega)]; exact b1, by rw [e _ (by omega)]; exact b2, by rw [e _ (by omega)]; exact b3, by rw [e _ (by omega)]; exact b4⟩
/-- one step -/
def stB (B : bd) : bd := (bW B, bN B, gact (bG B (bP B)) (bB B), bP B + 1, bD B, bG B)
theorem stB_ok {B : bd} (ok : Bok B) (h : bP B < bN B) : Bok (stB B) := ⟨ok.1, ok.2.1, gact_w (ok.2.2.2.2.2 _ h) ok.2.2.1, h, ok.2.2.2.2.1, ok.2.2.2.2.2⟩
theorem i_MstepOn {S : st_S} {σ : sg} (h : MI S σ) (wf : Wf σ) (hl : bP σ.1 < bN σ.1) {Q : aw_R} (hq : ∀ S', Fm S S' → MI S' (nb σ (stB σ.1)) → Q none (hp S')) : tr_X7_stepOn [.ref 58] (hp S) Q := by
  rw [tq_X7_stepOn]
  unfold sm_X7_stepOn_0
  obtain ⟨a0, a1, a2, a3, a4, ag⟩ := h.1
  have hw := wf.1.1.2
  have := wf.1.2.1
  have := pw_le hw
  have := wf.1.2.2.1
  rw [m_0, m_0, show (sa_I (hp S) 59 3 _) = _ from m_wn (n := 3) (by omega), show S.2.1 59 3 = nI (bP σ.1) from a3, m_0, show (sa_I (hp S) 59 2 _) = _ from m_wn (n := 2) (by omega), show S.2.1 59 2 = nI (bB σ.1) from a2, m_v]
  rw [show (tr_X7_doneIn [.ref 58, .int 0, .int (nI (bP σ.1)), .int (nI (bB σ.1))] (hp S)) = _ from funext fun Q => e_MdoneIn (x := 0) h.1.g hl (wf.1.2.2.2.2.2 _ hl) hw (by omega) (by omega)]
  simp only [sr_I]
  rw [show (ss_I (hp S) 59 2 _ _) = _ from m_wsn (n := 2) (by omega), sA_F, m_0, show (sa_I (hp _) 59 3 _) = _ from m_wn (n := 3) (by omega), show (ss_I (hp _) 59 3 _ _) = _ from m_wsn (n := 3) (by omega), sA_F, sF_F, sF_at, pk_un (by omega), show S.2.1 59 3 = nI (bP σ.1) from a3, nI_1]
  refine hq _ (Fm.F (by omega)) (h.hd wf (fun k hk => by rw [pk_un (by omega), pk_un (by omega)]) ?_ ?_ ?_ ?_ ?_)
  · rw [pk_un (by omega), pk_un (by omega)]; exact a0
  · rw [pk_un (by omega), pk_un (by omega)]; exact a1
  · rw [pk_un (by omega), pk_us]
  · rw [pk_us]
  · rw [pk_un (by omega), pk_un (by omega)]; exact a4
/-- n steps, each kept -/
def stN : Nat → sg → sg
  | 0, σ => σ
  | n + 1, σ => nb (kp (stN n σ)) (stB (stN n σ).1)
theorem stN_P : ∀ (n : Nat) (σ : sg), bN (stN n σ).1 = bN σ.1 ∧ bP (stN n σ).1 = bP σ.1 + n
  | 0, σ => ⟨rfl, rfl⟩
  | n + 1, σ => by
    have := stN_P n σ
    exact ⟨this.1, by show bP (stN n σ).1 + 1 = _; rw [this.2]; rfl⟩
theorem stN_wf {σ : sg} (wf : Wf σ) : ∀ {n : Nat}, bP σ.1 + n ≤ bN σ.1 → Wf (stN n σ)
  | 0, _ => wf
  | n + 1, h => nb_wf (kp_wf (stN_wf wf (by omega))) (stB_ok (stN_wf wf (n := n) (by omega)).1 (by have := stN_P n σ; omega))
theorem nlt1 {x : Int32} (h : ¬ x < 1) (h2 : x ≤ 16) : ∃ n, 1 ≤ n ∧ n ≤ 16 ∧ x = nI n := by
  rw [Int32.lt_iff_toInt_lt] at h
  have h2 := Int32.le_iff_toInt_le.mp h2
  have h : ¬ x.toInt < 1 := h
  have h2 : x.toInt ≤ 16 := h2
  refine ⟨x.toInt.toNat, by omega, by omega, Int32.toInt_inj.mp ?_⟩
  rw [nI_toInt (by omega)]
  omega
theorem inb_1_16 {x : Int32} : (x < 1 ∧ inb x 1 16 = 0) ∨ (¬ x < 1 ∧ ¬ x ≤ 16 ∧ inb x 1 16 = 0) ∨ ∃ n, 1 ≤ n ∧ n ≤ 16 ∧ x = nI n ∧ ¬ x < 1 ∧ x ≤ 16 ∧ inb x 1 16 = 1 := by
  by_cases h : x < 1
  · exact Or.inl ⟨h, if_pos h⟩
  · by_cases h2 : x ≤ 16
    · obtain ⟨n, a, b, c⟩ := nlt1 h h2
      refine Or.inr (Or.inr ⟨n, a, b, c, h, h2, ?_⟩)
      rw [inb_1]
      exact ⟨Int32.le_iff_toInt_le.mpr (by rw [Int32.lt_iff_toInt_lt] at h; omega), h2⟩
    · refine Or.inr (Or.inl ⟨h, h2, ?_⟩)
      rcases inb_01 x 1 16 with q | q
      · exact q
      · exact absurd (inb_1.mp q).2 h2
theorem op_step {σ : sg} (wf : Wf σ) (x : Int32) : Op tr_X6_step tr_X7_step σ [.int x] := by
  have hn16 := wf.1.2.1
  have hpn := wf.1.2.2.2.1
  rcases inb_1_16 (x := x) with ⟨h1, h2⟩ | ⟨h1, h3, h2⟩ | ⟨n, n1, n2, rfl, h1, h3, h2⟩
  · refine Op.same (-1) (fun S Q h hq => ?_) (fun S Q h hq => ?_)
    · rw [tq_X6_step]; intro K r; unfold sm_X6_step_0; rw [if_pos h1]; exact hq
    · rw [tq_X7_step]; intro K r; unfold sm_X7_step_0; rw [e_in, h2]; simp only [sr_I]; rw [if_neg (by decide)]; exact hq
  · refine Op.same (-1) (fun S Q h hq => ?_) (fun S Q h hq => ?_)
    · rw [tq_X6_step]; intro K r; unfold sm_X6_step_0; rw [if_neg h1, if_neg h3]; exact hq
    · rw [tq_X7_step]; intro K r; unfold sm_X7_step_0; rw [e_in, h2]; simp only [sr_I]; rw [if_neg (by decide)]; exact hq
  · by_cases hle : bP σ.1 + n ≤ bN σ.1
    · refine ⟨nI (bB (stN n σ).1), stN n σ, fun S Q h hq => ?_, fun S Q h hq => ?_⟩
      · rw [tq_X6_step]
        intro K37 r37
        have main : ∀ m k S1, k + m = n → Fc S S1 → CI S1 (stN k σ) → K37 0 (nI n) (nI k) (hp S1) := by
          intro m
          induction m with
          | zero =>
            intro k S1 e hf hc
            apply r37
            unfold sm_X6_step_37
            rw [show k = n by omega] at hc ⊢
            rw [if_pos (nI_le (Nat.le_refl n) (by omega)), c_0, hq_I (k := 3) k1 rfl, hc.1.2.2.2.1]
            exact hq S1 hf hc
          | succ m ih =>
            intro k S1 e hf hc
            apply r37
            unfold sm_X6_step_37
            have hP := stN_P k σ
            rw [if_neg (nI_ge (by omega) (by omega)), c_1, c_0, p_v]
            refine i_Ckeep hc (fun S2 f2 hc2 => ?_)
            simp only [sr_V]
            rw [c_0, b_v]
            have hlt : bP (stN k σ).1 < bN (stN k σ).1 := by omega
            refine i_stepOn k1 hc2.1.2 hc2.1.1 hlt (fun S3 s3 hB3 => ?_)
            simp only [sr_V]
            rw [nI_1]
            exact ih (k + 1) S3 (by omega) ((hf.tr f2).tr (s3.fc (by simp))) (hc2.now (s3.mono (by simp)) (stB_ok hc.1.1 hlt) hB3)
        unfold sm_X6_step_0
        obtain ⟨a0, a1, a3, a4, a5, ag⟩ := h.1.2
        rw [if_neg h1, if_pos h3, c_0, hq_I (k := 1) k1 rfl, a1, c_0, hq_I (k := 4) k1 rfl, a4, pk_sub hpn, if_pos (nI_le (by omega) (by omega))]
        exact main n 0 S (by omega) (Fc.rf S) h
      · rw [tq_X7_step]
        intro K34 r34
        have main : ∀ m k S1, k + m = n → Fm S S1 → MI S1 (stN k σ) → K34 58 (nI n) (nI k) (hp S1) := by
          intro m
          induction m with
          | zero =>
            intro k S1 e hf hc
            apply r34
            unfold sm_X7_step_34
            rw [show k = n by omega] at hc ⊢
            rw [if_pos (nI_le (Nat.le_refl n) (by omega)), m_0, show (sa_I (hp S1) 59 2 _) = _ from m_wn (n := 2) (by omega), show S1.2.1 59 2 = _ from hc.1.2.2.1]
            exact hq S1 hf hc
          | succ m ih =>
            intro k S1 e hf hc
            apply r34
            unfold sm_X7_step_34
            have hP := stN_P k σ
            have wfk := stN_wf wf (n := k) (by omega)
            rw [if_neg (nI_ge (by omega) (by omega)), m_v]
            refine i_Mkeep hc wfk (fun S2 f2 hc2 => ?_)
            simp only [sr_V]
            rw [m_v]
            have hlt : bP (stN k σ).1 < bN (stN k σ).1 := by omega
            refine i_MstepOn hc2 (kp_wf wfk) hlt (fun S3 f3 hB3 => ?_)
            simp only [sr_V]
            rw [nI_1]
            exact ih (k + 1) S3 (by omega) ((hf.tr f2).tr f3) hB3
        unfold sm_X7_step_0
        obtain ⟨a0, a1, a2, a3, a4, ag⟩ := h.1
        rw [e_in, h2]
        simp only [sr_I]
        rw [if_pos (by decide), m_0, show (sa_I (hp S) 59 3 _) = _ from m_wn (n := 3) (by omega), show S.2.1 59 3 = nI (bP σ.1) from a3, m_0, show (sa_I (hp S) 59 1 _) = _ from m_wn (n := 1) (by omega), show S.2.1 59 1 = nI (bN σ.1) from a1, nI_add, if_pos (nI_le hle (by omega))]
        exact main n 0 S (by omega) (Fm.rf S) h
    · refine Op.same (-2) (fun S Q h hq => ?_) (fun S Q h hq => ?_)
      · rw [tq_X6_step]; intro K r; unfold sm_X6_step_0
        obtain ⟨a0, a1, a3, a4, a5, ag⟩ := h.1.2
        rw [if_neg h1, if_pos h3, c_0, hq_I (k := 1) k1 rfl, a1, c_0, hq_I (k := 4) k1 rfl, a4, pk_sub hpn, if_neg (nI_ge (by omega) (by omega))]
        exact hq
      · rw [tq_X7_step]; intro K r; unfold sm_X7_step_0
        obtain ⟨a0, a1, a2, a3, a4, ag⟩ := h.1
        rw [e_in, h2]
        simp only [sr_I]
        rw [if_pos (by decide), m_0, show (sa_I (hp S) 59 3 _) = _ from m_wn (n := 3) (by omega), show S.2.1 59 3 = nI (bP σ.1) from a3, m_0, show (sa_I (hp S) 59 1 _) = _ from m_wn (n := 1) (by omega), show S.2.1 59 1 = nI (bN σ.1) from a1, nI_add, if_neg (nI_ge (by omega) (by omega))]
        exact hq
