/-! far, type, count -/
theorem inb_0m (x M : Int32) : (x < 0 ∧ inb x 0 M = 0) ∨ (¬ x < 0 ∧ ¬ x ≤ M ∧ inb x 0 M = 0) ∨ (∃ k, k < 2 ^ 31 ∧ x = nI k ∧ ¬ x < 0 ∧ x ≤ M ∧ inb x 0 M = 1) := by
  by_cases h : x < 0
  · exact Or.inl ⟨h, if_pos h⟩
  · by_cases h2 : x ≤ M
    · obtain ⟨k, hk, e⟩ := nI_of h
      refine Or.inr (Or.inr ⟨k, hk, e, h, h2, ?_⟩)
      rw [inb_1]
      exact ⟨Int32.le_iff_toInt_le.mpr (by rw [Int32.lt_iff_toInt_lt] at h; omega), h2⟩
    · refine Or.inr (Or.inl ⟨h, h2, ?_⟩)
      rcases inb_01 x 0 M with q | q
      · exact q
      · exact absurd (inb_1.mp q).2 h2
theorem op_far {σ : sg} (wf : Wf σ) (x y : Int32) : Op tr_X6_far tr_X7_far σ [.int x, .int y] := by
  have hp2 := pw_le wf.1.1.2
  rcases inb_nat (x := x) (n := 2 ^ bW σ.1) (by omega) with ⟨s, hs, rfl, e⟩ | ⟨hj, e⟩
  · have hr := rl_le wf.1 hs
    have hr0 := rl_pos (B := σ.1) (s := s)
    rcases inb_0m y 2000000000 with ⟨h1, e2⟩ | ⟨h1, h3, e2⟩ | ⟨k, hk, rfl, h1, h3, e2⟩
    · refine Op.same (-1) (fun S Q h hq => ?_) (fun S Q h hq => ?_)
      · rw [tq_X6_far]; unfold sm_X6_far_0
        rw [c_v, e_CisState h.1.2 h.1.1, e]
        simp only [sr_I]
        rw [if_neg (by decide), if_pos h1]
        exact hq
      · rw [tq_X7_far]; intro K r; unfold sm_X7_far_0
        rw [m_v, e_MisState h.1 wf.1, e]
        simp only [sr_I]
        rw [if_neg (by decide), e_in, e2]
        simp only [sr_I]
        rw [if_neg (by decide)]
        exact hq
    · refine Op.same (-1) (fun S Q h hq => ?_) (fun S Q h hq => ?_)
      · rw [tq_X6_far]; unfold sm_X6_far_0
        rw [c_v, e_CisState h.1.2 h.1.1, e]
        simp only [sr_I]
        rw [if_neg (by decide), if_neg h1, if_neg h3]
        exact hq
      · rw [tq_X7_far]; intro K r; unfold sm_X7_far_0
        rw [m_v, e_MisState h.1 wf.1, e]
        simp only [sr_I]
        rw [if_neg (by decide), e_in, e2]
        simp only [sr_I]
        rw [if_neg (by decide)]
        exact hq
    · have hm : k % rl σ.1 s < 64 := by have := Nat.mod_lt k hr0; omega
      refine ⟨nI (itr (rn σ.1) (k % rl σ.1 s) s), σ, fun S Q h hq => ?_, fun S Q h hq => ?_⟩
      · rw [tq_X6_far]; unfold sm_X6_far_0
        rw [c_v, e_CisState h.1.2 h.1.1, e]
        simp only [sr_I]
        rw [if_neg (by decide), if_neg h1, if_pos h3, c_7, f_v, tq_X1_behindRuns]
        intro K25 r25
        unfold sm_X1_behindRuns_0
        rw [f_v]
        refine i_Crl h.1.2 h.1.1 hs ?_
        simp only [sr_I]
        rw [if_neg (nI_nle hr0 (by omega))]
        refine ⟨nI_ne0 hr0 (by omega), ?_⟩
        rw [pk_rem hk hr0 (by omega)]
        have main : ∀ m n, n + m = k % rl σ.1 s → K25 45 (nI (k % rl σ.1 s)) (nI (itr (rn σ.1) n s)) (nI n) (hp S) := by
          intro m
          induction m with
          | zero =>
            intro n e
            apply r25
            unfold sm_X1_behindRuns_25
            rw [if_pos (nI_le (by omega) (by omega)), show n = k % rl σ.1 s by omega]
            simp only [sr_I]
            exact hq S (Fc.rf S) h
          | succ m ih =>
            intro n e
            apply r25
            unfold sm_X1_behindRuns_25
            rw [if_neg (nI_ge (by omega) (by omega)), f_0, b_v]
            refine i_run k1 h.1.2 h.1.1 (rn_64 wf.1 (itr_lt (rn_inj wf.1).1 hs n)) ?_
            simp only [sr_I]
            rw [nI_1]
            exact ih (n + 1) (by omega)
        exact main (k % rl σ.1 s) 0 (by omega)
      · rw [tq_X7_far]; intro K38 r38; unfold sm_X7_far_0
        rw [m_v, e_MisState h.1 wf.1, e]
        simp only [sr_I]
        rw [if_neg (by decide), e_in, e2]
        simp only [sr_I]
        rw [if_pos (by decide), m_v]
        refine i_layRuns h wf (fun S' f' h' t' _ _ => ?_)
        simp only [sr_V]
        rw [m_v]
        refine i_Mrl t' wf.1 hs ?_
        simp only [sr_I]
        refine ⟨nI_ne0 hr0 (by omega), ?_⟩
        rw [pk_rem hk hr0 (by omega)]
        have main : ∀ m n, n + m = k % rl σ.1 s → K38 58 (nI (itr (rn σ.1) n s)) (nI (k % rl σ.1 s)) (nI n) (hp S') := by
          intro m
          induction m with
          | zero =>
            intro n e
            apply r38
            unfold sm_X7_far_38
            rw [if_pos (nI_le (by omega) (by omega)), show n = k % rl σ.1 s by omega]
            exact hq S' f' h'
          | succ m ih =>
            intro n e
            apply r38
            unfold sm_X7_far_38
            have hi := itr_lt (rn_inj wf.1).1 hs n
            rw [if_neg (nI_ge (by omega) (by omega)), m_7, t_r (rn_64 wf.1 hi), t' _ hi, nI_1]
            exact ih (n + 1) (by omega)
        exact main (k % rl σ.1 s) 0 (by omega)
  · refine Op.same (-1) (fun S Q h hq => ?_) (fun S Q h hq => ?_)
    · rw [tq_X6_far]; unfold sm_X6_far_0
      rw [c_v, e_CisState h.1.2 h.1.1, e]
      simp only [sr_I]
      rw [if_pos (by decide)]
      exact hq
    · rw [tq_X7_far]; intro K r; unfold sm_X7_far_0
      rw [m_v, e_MisState h.1 wf.1, e]
      simp only [sr_I]
      rw [if_pos (by decide)]
      exact hq
theorem CI.tp {S S' : st_S} {σ : sg} {t : Nat × (Nat → Nat)} (h : CI S σ) (hs : ∀ q, q < 58 → q ≠ 41 → q ≠ 42 → Sa S S' q) (ht : To S' t) : CI S' (σ.1, σ.2.1, σ.2.2.1, t, σ.2.2.2.2) := by
  obtain ⟨h1, h2, h3, h4, h5⟩ := h
  refine ⟨⟨h1.1, h1.2.kept (hs _ (by decide) (by decide) (by decide)) (hs _ (by decide) (by decide) (by decide))⟩, h2.kept (fun q _ h => hs q (by omega) (by omega) (by omega)), ?_, ht, ?_⟩
  · have f0 := hs 0 (by decide) (by decide) (by decide)
    show (match σ.2.2.1 with
      | none => S'.1 0 5 = 0
      | some (b, l) => S'.1 0 5 = 1 ∧ (Bok b ∧ Bo S' 21 b) ∧ Po S' 23 l)
    split
    · rename_i e
      rw [e] at h3
      rw [f0.1]
      exact h3
    · rename_i b l e
      rw [e] at h3
      rw [f0.1]
      exact ⟨h3.1, ⟨h3.2.1.1, h3.2.1.2.kept (hs _ (by decide) (by decide) (by decide)) (hs _ (by decide) (by decide) (by decide))⟩, h3.2.2.kept (fun q _ h => hs q (by omega) (by omega) (by omega))⟩
  · intro i hi
    exact (h5 i hi).kept (hs _ (by omega) (by omega) (by omega)) (hs _ (by omega) (by omega) (by omega))
theorem MI.tp {S S' : st_S} {σ : sg} {t : Nat × (Nat → Nat)} (h : MI S σ) (h59 : S'.2.1 59 = S.2.1 59) (h1 : S'.1 58 1 = S.1 58 1) (h61 : S'.2.2 61 = S.2.2 61) (h62 : S'.2.1 62 = S.2.1 62) (h63 : S'.2.1 63 = S.2.1 63) (ht : Tm S' t) : MI S' (σ.1, σ.2.1, σ.2.2.1, t, σ.2.2.2.2) := by
  obtain ⟨g1, g2, g3, g4, g5⟩ := h
  have kB : ∀ {x B}, Br S x B → Br S' x B := fun {x B} q => by unfold Br; rw [h59]; exact q
  have kP : ∀ {x l}, Pr S x l → Pr S' x l := fun {x l} q => ⟨q.1, by rw [h59]; exact q.2.1, fun j C hj => kB (q.2.2 j C hj)⟩
  refine ⟨kB g1, kP g2, ?_, ht, fun i hi => ?_⟩
  · show (match σ.2.2.1 with
      | none => S'.1 58 1 = 0
      | some (b, l) => S'.1 58 1 = 1 ∧ Br S' 766 b ∧ Pr S' 766 l)
    split
    · rename_i e
      rw [e] at g3
      rw [h1]
      exact g3
    · rename_i b l e
      rw [e] at g3
      rw [h1]
      exact ⟨g3.1, kB g3.2.1, kP g3.2.2⟩
  · have := g5 i hi
    show Hm S' i (σ.2.2.2.2 i)
    unfold Hm at this ⊢
    rw [h61, h62, h63]
    exact this
theorem k41 : kd 41 = 4 := rfl
theorem op_type {σ : sg} (wf : Wf σ) (x : Int32) : Op tr_X6_type tr_X7_type σ [.int x] := by
  have ht := wf.2.2.2.2.1.1
  by_cases h1 : x < 32
  · refine Op.same (-1) (fun S Q h hq => ?_) (fun S Q h hq => ?_)
    · rw [tq_X6_type]; unfold sm_X6_type_0; rw [if_pos h1]; exact hq
    · rw [tq_X7_type]; unfold sm_X7_type_0
      rw [e_in, show inb x 32 126 = 0 from if_pos h1]
      simp only [sr_I]
      rw [if_neg (by decide)]
      exact hq
  · by_cases h2 : x ≤ 126
    · obtain ⟨n, n1, n2, rfl⟩ : ∃ n, 32 ≤ n ∧ n ≤ 126 ∧ x = nI n := by
        rw [Int32.lt_iff_toInt_lt] at h1
        have h1 : ¬ x.toInt < 32 := h1
        have h2 : x.toInt ≤ 126 := Int32.le_iff_toInt_le.mp h2
        refine ⟨x.toInt.toNat, by omega, by omega, Int32.toInt_inj.mp ?_⟩
        rw [nI_toInt (by omega)]
        omega
      have e1 : inb (nI n) 32 126 = 1 := by
        rw [inb_1]
        exact ⟨show nI 32 ≤ nI n from nI_le n1 (by omega), h2⟩
      have e2 : (Int32.toUInt32 (nI n) % 65536).toInt32 = nI n := by
        rw [pk_char, pk_tn (by omega), Nat.mod_eq_of_lt (by omega)]
      by_cases hl : σ.2.2.2.1.1 < 110
      · refine ⟨nI (σ.2.2.2.1.1 + 1), (σ.1, σ.2.1, σ.2.2.1, (σ.2.2.2.1.1 + 1, fun j => if j = σ.2.2.2.1.1 then n else σ.2.2.2.1.2 j), σ.2.2.2.2), fun S Q h hq => ?_, fun S Q h hq => ?_⟩
        · rw [tq_X6_type]; unfold sm_X6_type_0
          obtain ⟨t1, t2, t3⟩ := h.2.2.2.1
          rw [if_neg h1, if_pos h2, c_5, hv_O (p := 41) (ci := 4) rfl (by decide), tq_X5_add]
          unfold sm_X5_add_0
          rw [hq_I (k := 1) k41 rfl, t2, if_pos (show nI σ.2.2.2.1.1 < (110 : Int32) from nI_lt (b := 110) hl (by omega)), hq_R (k := 0) k41 rfl, hq_I (k := 1) k41 rfl, t2]
          show ss_C (hp S) 42 (nI σ.2.2.2.1.1) _ _
          rw [hs_C (p := 42) rfl]
          refine ⟨vi (show _ < ln 42 from hl) (by decide), ?_⟩
          rw [pk_vc, e2, cl (by omega), hq_I (k := 1) k41 rfl, show (sA S 42 σ.2.2.2.1.1 (nI n)).1 41 1 = nI σ.2.2.2.1.1 from t2, nI_1, hq_P (k := 1) k41 rfl]
          simp only [sr_I]
          rw [if_neg (by decide), c_5, hq_I (k := 1) k41 rfl, sI_at]
          refine hq _ (((Sx.A (ps := [41, 42]) (by simp)).tr (Sx.I (by simp))).fc (by simp)) (h.tp (fun q _ q1 q2 => ((Sx.A (ps := [41, 42]) (by simp)).tr (Sx.I (by simp))) q (by simp; omega)) ⟨hl, sI_at _ _ _ _, fun j hj => ?_⟩)
          have hj : j < σ.2.2.2.1.1 + 1 := hj
          show (32 ≤ (if j = σ.2.2.2.1.1 then n else σ.2.2.2.1.2 j) ∧ (if j = σ.2.2.2.1.1 then n else σ.2.2.2.1.2 j) ≤ 126) ∧ (sA S 42 σ.2.2.2.1.1 (nI n)).2.1 42 j = nI (if j = σ.2.2.2.1.1 then n else σ.2.2.2.1.2 j)
          rw [sA_F, sF_at]
          by_cases hjt : j = σ.2.2.2.1.1
          · rw [if_pos hjt, hjt, pk_us]
            exact ⟨⟨n1, n2⟩, rfl⟩
          · rw [if_neg hjt, pk_un hjt]
            exact t3 j (by omega)
        · rw [tq_X7_type]; unfold sm_X7_type_0
          obtain ⟨t2, t3⟩ := h.2.2.2.1
          rw [e_in, e1]
          simp only [sr_I]
          rw [if_pos (by decide), hq_I (k := 3) k58 rfl, t2, if_pos (show ¬ nI σ.2.2.2.1.1 = (110 : Int32) from fun q => by have := (nI_eq (b := 110) (by omega) (by omega)).mp q; omega), m_2, hq_I (k := 3) k58 rfl, t2, hs_I (p := 60) rfl]
          refine ⟨vi (show _ < ln 60 from hl) (by decide), ?_⟩
          rw [cl (by omega), hq_I (k := 3) k58 rfl, show (sA S 60 σ.2.2.2.1.1 (nI n)).1 58 3 = nI σ.2.2.2.1.1 from t2, nI_1, hq_P (k := 3) k58 rfl, hq_I (k := 3) k58 rfl, sI_at]
          refine hq _ ((Fm.F (p := 60) (by omega)).tr (Fm.I (by omega))) (h.tp ?_ ?_ rfl ?_ ?_ ⟨sI_at _ _ _ _, fun j hj => ?_⟩)
          · rw [sI_2, sA_F, sF_ne _ _ (by omega)]
          · rw [sI_ne _ _ (by omega)]; rfl
          · rw [sI_2, sA_F, sF_ne _ _ (by omega)]
          · rw [sI_2, sA_F, sF_ne _ _ (by omega)]
          · have hj : j < σ.2.2.2.1.1 + 1 := hj
            show (sA S 60 σ.2.2.2.1.1 (nI n)).2.1 60 j = nI (if j = σ.2.2.2.1.1 then n else σ.2.2.2.1.2 j)
            rw [sA_F, sF_at]
            by_cases hjt : j = σ.2.2.2.1.1
            · rw [if_pos hjt, hjt, pk_us]
            · rw [if_neg hjt, pk_un hjt]
              exact t3 j (by omega)
      · refine Op.same (-3) (fun S Q h hq => ?_) (fun S Q h hq => ?_)
        · rw [tq_X6_type]; unfold sm_X6_type_0
          obtain ⟨t1, t2, t3⟩ := h.2.2.2.1
          rw [if_neg h1, if_pos h2, c_5, hv_O (p := 41) (ci := 4) rfl (by decide), tq_X5_add]
          unfold sm_X5_add_0
          rw [hq_I (k := 1) k41 rfl, t2, if_neg (show ¬ nI σ.2.2.2.1.1 < (110 : Int32) from nI_nlt (b := 110) (by omega) (by omega))]
          simp only [sr_I]
          rw [if_pos (by decide)]
          exact hq
        · rw [tq_X7_type]; unfold sm_X7_type_0
          obtain ⟨t2, t3⟩ := h.2.2.2.1
          rw [e_in, e1]
          simp only [sr_I]
          rw [if_pos (by decide), hq_I (k := 3) k58 rfl, t2, if_neg (fun q => q (by rw [show σ.2.2.2.1.1 = 110 by omega]; rfl))]
          exact hq
    · refine Op.same (-1) (fun S Q h hq => ?_) (fun S Q h hq => ?_)
      · rw [tq_X6_type]; unfold sm_X6_type_0; rw [if_neg h1, if_neg h2]; exact hq
      · rw [tq_X7_type]; unfold sm_X7_type_0
        rw [e_in, show inb x 32 126 = 0 from by
          rcases inb_01 x 32 126 with q | q
          · exact q
          · exact absurd (inb_1.mp q).2 h2]
        simp only [sr_I]
        rw [if_neg (by decide)]
        exact hq
/-- how many bits are set -/
def popc (n : Nat) : Nat := fb_sm (fun j => n / 2 ^ j % 2) 16
def bc1 (n : Nat) : Nat := n - (n / 2 &&& 1431655765)
def bc2 (n : Nat) : Nat := (n &&& 858993459) + (n / 4 &&& 858993459)
def bc3 (n : Nat) : Nat := (n + n / 16) &&& 252645135
def bc4 (n : Nat) : Nat := n + n / 256
def bc5 (n : Nat) : Nat := n + n / 65536
theorem land_split {k a b c d : Nat} (hb : b < 2 ^ k) (hd : d < 2 ^ k) : (2 ^ k * a + b) &&& (2 ^ k * c + d) = 2 ^ k * (a &&& c) + (b &&& d) := by
  apply Nat.eq_of_testBit_eq
  intro j
  rw [Nat.testBit_and, Nat.testBit_two_pow_mul_add _ hb, Nat.testBit_two_pow_mul_add _ hd, Nat.testBit_two_pow_mul_add _ (Nat.lt_of_le_of_lt Nat.and_le_left hb)]
  split
  · rw [Nat.testBit_and]
  · rw [Nat.testBit_and]
def by1 (n : Nat) : Nat := n - (n / 2 &&& 85)
def by2 (n : Nat) : Nat := (n &&& 51) + (n / 4 &&& 51)
theorem by_1 : ∀ a, a < 256 → (a / 2 &&& 5592405) = (a / 2 &&& 85) ∧ (a / 2 &&& 85) ≤ a ∧ by1 a < 256 := by decide +kernel
theorem by_2 : ∀ a, a < 256 → (128 * 0 + a / 2 &&& 85) = (a / 2 &&& 85) ∧ (128 * 1 + a / 2 &&& 85) = (a / 2 &&& 85) := by decide +kernel
theorem by_3 : ∀ a, a < 256 → (a &&& 3355443) = (a &&& 51) ∧ (a / 4 &&& 3355443) = (a / 4 &&& 51) := by decide +kernel
theorem by_4 : ∀ c, c < 4 → ∀ a, a < 256 → (64 * c + a / 4 &&& 51) = (a / 4 &&& 51) := by decide +kernel
theorem by_5 : ∀ a, a < 256 → by2 (by1 a) % 16 ≤ 4 ∧ by2 (by1 a) / 16 ≤ 4 ∧ (by2 (by1 a) + by2 (by1 a) / 16 &&& 986895) = (by2 (by1 a) + by2 (by1 a) / 16 &&& 15) ∧ (by2 (by1 a) + by2 (by1 a) / 16) % 16 = fb_sm (fun j => a / 2 ^ j % 2) 8 ∧ (by2 (by1 a) + by2 (by1 a) / 16) % 16 ≤ 8 := by decide +kernel
theorem bc1_s {a b : Nat} (ha : a < 256) (hb : b < 256) : bc1 (256 * a + b) = 256 * by1 a + by1 b := by
  unfold bc1
  have e1 : (256 * a + b) / 2 = 2 ^ 8 * (a / 2) + (128 * (a % 2) + b / 2) := by omega
  rw [e1, show (1431655765 : Nat) = 2 ^ 8 * 5592405 + 85 from rfl, land_split (by omega) (by decide), (by_1 a ha).1]
  have e2 : (128 * (a % 2) + b / 2 &&& 85) = (b / 2 &&& 85) := by
    rcases (show a % 2 = 0 ∨ a % 2 = 1 by omega) with q | q <;> rw [q]
    · exact (by_2 b hb).1
    · exact (by_2 b hb).2
  rw [e2]
  have := (by_1 a ha).2.1
  have := (by_1 b hb).2.1
  unfold by1
  omega
theorem bc2_s {a b : Nat} (ha : a < 256) (hb : b < 256) : bc2 (256 * a + b) = 256 * by2 a + by2 b := by
  unfold bc2
  have e1 : (256 * a + b) / 4 = 2 ^ 8 * (a / 4) + (64 * (a % 4) + b / 4) := by omega
  rw [e1, show 256 * a + b = 2 ^ 8 * a + b from rfl, show (858993459 : Nat) = 2 ^ 8 * 3355443 + 51 from rfl, land_split (by omega) (by decide), land_split (by omega) (by decide), (by_3 a ha).1, (by_3 a ha).2, by_4 (a % 4) (by omega) b hb]
  unfold by2
  omega
theorem popc_s {a b : Nat} (hb : b < 256) : popc (256 * a + b) = fb_sm (fun j => a / 2 ^ j % 2) 8 + fb_sm (fun j => b / 2 ^ j % 2) 8 := by
  have := fb_sm_split (fun j => (256 * a + b) / 2 ^ j % 2) 8 8
  unfold popc
  rw [show (16 : Nat) = 8 + 8 from rfl, this, Nat.add_comm]
  have c1 : fb_sm (fun k => (256 * a + b) / 2 ^ (8 + k) % 2) 8 = fb_sm (fun j => a / 2 ^ j % 2) 8 := by
    apply fb_sm_cong
    intro k hk
    show (256 * a + b) / 2 ^ (8 + k) % 2 = a / 2 ^ k % 2
    rw [Nat.pow_add, ← Nat.div_div_eq_div_mul, show (256 * a + b) / 2 ^ 8 = a by omega]
  have c2 : fb_sm (fun j => (256 * a + b) / 2 ^ j % 2) 8 = fb_sm (fun j => b / 2 ^ j % 2) 8 := by
    apply fb_sm_cong
    intro k hk
    show (256 * a + b) / 2 ^ k % 2 = b / 2 ^ k % 2
    rcases (show k = 0 ∨ k = 1 ∨ k = 2 ∨ k = 3 ∨ k = 4 ∨ k = 5 ∨ k = 6 ∨ k = 7 by omega) with rfl | rfl | rfl | rfl | rfl | rfl | rfl | rfl <;> simp only [Nat.reducePow] <;> omega
  rw [c1, c2]
theorem bc_d {a : Nat} (ha : a < 256) {b : Nat} (hb : b < 256) : (bc5 (bc4 (bc3 (bc2 (bc1 (256 * a + b))))) &&& 63) = popc (256 * a + b) := by
  rw [bc1_s ha hb, bc2_s (by_1 a ha).2.2 (by_1 b hb).2.2, popc_s hb]
  obtain ⟨a1, a2, a3, a4, a5⟩ := by_5 a ha
  obtain ⟨b1, b2, b3, b4, b5⟩ := by_5 b hb
  rw [← a4, ← b4]
  generalize by2 (by1 a) = x at *
  generalize by2 (by1 b) = y at *
  have e1 : bc3 (256 * x + y) = 256 * ((x + x / 16) % 16) + (y + y / 16) % 16 := by
    unfold bc3
    rw [show 256 * x + y + (256 * x + y) / 16 = 2 ^ 8 * (x + x / 16) + (16 * (x % 16) + y + y / 16) by omega, show (252645135 : Nat) = 2 ^ 8 * 986895 + 15 from rfl, land_split (by omega) (by decide), a3, show (15 : Nat) = 2 ^ 4 - 1 from rfl, Nat.and_two_pow_sub_one_eq_mod, Nat.and_two_pow_sub_one_eq_mod]
    omega
  rw [e1, show (63 : Nat) = 2 ^ 6 - 1 from rfl, Nat.and_two_pow_sub_one_eq_mod]
  generalize (x + x / 16) % 16 = P at *
  generalize (y + y / 16) % 16 = R at *
  have e2 : bc4 (256 * P + R) = 256 * P + R + P := by unfold bc4; omega
  rw [e2]
  have e3 : bc5 (256 * P + R + P) = 256 * P + R + P := by unfold bc5; omega
  rw [e3]
  show (256 * P + R + P) % 64 = P + R
  omega
theorem usr {n : Nat} (hn : n < 2 ^ 32) (s : Int32) (k : Nat) (hs : ((s.toUInt32 &&& Int32.toUInt32 31).toBitVec % 32).toNat = k) : ((nI n).toUInt32 >>> (s.toUInt32 &&& Int32.toUInt32 31)).toInt32 = nI (n / 2 ^ k) := pk_ushrN hn s k hs
theorem e_bitCount {n : Nat} (h : n < 65536) {h' : aw_H} {Q : aw_R} : tr_J6_bitCount_0f7a4 [.int (nI n)] h' Q = Q (some (.int (nI (popc n)))) h' := by
  rw [propext tq_J6_bitCount_0f7a4]
  unfold sm_J6_bitCount_0f7a4_0
  have b1 : bc1 n ≤ n := Nat.sub_le _ _
  have e1 : nI n - ((((nI n).toUInt32 >>> (Int32.toUInt32 1 &&& Int32.toUInt32 31)).toInt32) &&& 1431655765) = nI (bc1 n) := by
    rw [usr (by omega) 1 1 (by decide), show (1431655765 : Int32) = nI 1431655765 from rfl, fa_and, pk_sub (Nat.le_trans Nat.and_le_left (Nat.div_le_self n _))]
    rfl
  rw [e1]
  generalize hm1 : bc1 n = m1 at *
  have b2 : bc2 m1 ≤ m1 + m1 / 4 := Nat.add_le_add Nat.and_le_left Nat.and_le_left
  have e2 : (nI m1 &&& 858993459) + ((((nI m1).toUInt32 >>> (Int32.toUInt32 2 &&& Int32.toUInt32 31)).toInt32) &&& 858993459) = nI (bc2 m1) := by
    rw [usr (by omega) 2 2 (by decide), show (858993459 : Int32) = nI 858993459 from rfl, fa_and, fa_and, nI_add]
    rfl
  rw [e2]
  generalize hm2 : bc2 m1 = m2 at *
  have b3 : bc3 m2 ≤ m2 + m2 / 16 := Nat.and_le_left
  have e3 : ((nI m2 + (((nI m2).toUInt32 >>> (Int32.toUInt32 4 &&& Int32.toUInt32 31)).toInt32)) &&& 252645135) = nI (bc3 m2) := by
    rw [usr (by omega) 4 4 (by decide), show (252645135 : Int32) = nI 252645135 from rfl, nI_add, fa_and]
    rfl
  rw [e3]
  generalize hm3 : bc3 m2 = m3 at *
  have b4 : bc4 m3 = m3 + m3 / 256 := rfl
  have e4 : (nI m3 + (((nI m3).toUInt32 >>> (Int32.toUInt32 8 &&& Int32.toUInt32 31)).toInt32)) = nI (bc4 m3) := by
    rw [usr (by omega) 8 8 (by decide), nI_add]
    rfl
  rw [e4]
  generalize hm4 : bc4 m3 = m4 at *
  have e5 : (nI m4 + (((nI m4).toUInt32 >>> (Int32.toUInt32 16 &&& Int32.toUInt32 31)).toInt32)) = nI (bc5 m4) := by
    rw [usr (by omega) 16 16 (by decide), nI_add]
    rfl
  rw [e5, show (63 : Int32) = nI 63 from rfl, fa_and, ← hm4, ← hm3, ← hm2, ← hm1]
  have := bc_d (a := n / 256) (by omega) (b := n % 256) (by omega)
  rw [show 256 * (n / 256) + n % 256 = n by omega] at this
  rw [this]
theorem e_Mbits {n : Nat} (h : n < 2 ^ 31) {h' : aw_H} {Q : aw_R} (hq : Q (some (.int (nI (popc n)))) h') : tr_X7_bits [.int (nI n)] h' Q := by
  rw [tq_X7_bits]
  intro K4 r4
  have main : ∀ m k, k + m = 16 → K4 (nI n) (nI (fb_sm (fun j => n / 2 ^ j % 2) k)) (nI k) h' := by
    intro m
    induction m with
    | zero =>
      intro k e
      apply r4
      unfold sm_X7_bits_4
      rw [if_pos (show (16 : Int32) ≤ nI k from nI_le (a := 16) (by omega) (by omega)), show k = 16 by omega]
      exact hq
    | succ m ih =>
      intro k e
      apply r4
      unfold sm_X7_bits_4
      rw [if_neg (show ¬ (16 : Int32) ≤ nI k from nI_ge (b := 16) (by omega) (by omega))]
      have e1 : (nI n >>> (nI k &&& 31)) &&& 1 = nI (n / 2 ^ k % 2) := by
        rw [pk_shrN h (nI k &&& 31) k ((by decide +kernel : ∀ k, k < 16 → ((nI k &&& 31).toBitVec.smod 32).toNat = k) k (by omega)), show (1 : Int32) = nI (2 ^ 1 - 1) from rfl, fa_mask]
      rw [e1, nI_add, nI_1]
      exact ih (k + 1) (by omega)
  exact main 16 0 (by omega)
