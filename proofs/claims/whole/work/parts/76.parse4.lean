/-! CIRCUIT: the reference reads a text -/
/-- only these fields of the reference and these arrays changed -/
def Mf (ks ps : List Nat) (S S' : st_S) : Prop := (∀ q k, ¬ (q = 58 ∧ k ∈ ks) → S'.1 q k = S.1 q k) ∧ (∀ q, q ∉ ps → S'.2.1 q = S.2.1 q) ∧ S'.2.2 = S.2.2
theorem Mf.rf (ks ps : List Nat) (S : st_S) : Mf ks ps S S := ⟨fun _ _ _ => rfl, fun _ _ => rfl, rfl⟩
theorem Mf.tr {ks ps : List Nat} {S S' S'' : st_S} (h : Mf ks ps S S') (h' : Mf ks ps S' S'') : Mf ks ps S S'' := ⟨fun q k z => (h'.1 q k z).trans (h.1 q k z), fun q z => (h'.2.1 q z).trans (h.2.1 q z), h'.2.2.trans h.2.2⟩
theorem Mf.mono {ks ps ks' ps' : List Nat} {S S' : st_S} (h : Mf ks ps S S') (hk : ∀ k ∈ ks, k ∈ ks') (hp : ∀ p ∈ ps, p ∈ ps') : Mf ks' ps' S S' := ⟨fun q k z => h.1 q k (fun y => z ⟨y.1, hk k y.2⟩), fun q z => h.2.1 q (fun y => z (hp q y)), h.2.2⟩
theorem Mf.I {ks ps : List Nat} {S : st_S} {k : Nat} {v : Int32} (hk : k ∈ ks) : Mf ks ps S (sI S 58 k v) := ⟨fun q j z => sI_ne S v (fun y => z ⟨y.1, y.2 ▸ hk⟩), fun _ _ => rfl, rfl⟩
theorem Mf.A {ks ps : List Nat} {S : st_S} {p j : Nat} {v : Int32} (hp : p ∈ ps) : Mf ks ps S (sA S p j v) := ⟨fun _ _ _ => rfl, fun q z => sF_ne S _ (fun y => z (y ▸ hp)), rfl⟩
theorem Mf.fm {ks ps : List Nat} {S S' : st_S} (h : Mf ks ps S S') (hp : ∀ p ∈ ps, 58 ≤ p) : Fm S S' := fun q hq => ⟨funext fun k => h.1 q k (fun z => by omega), h.2.1 q (fun z => by have := hp q z; omega), by rw [h.2.2]⟩
def wro (e : Option Nat) : Int32 := match e with
  | none => -4
  | some q => nI q
/-- the reference reads T letters c, stands at p, and e is its first fault -/
def MC (S : st_S) (T : Nat) (c : Nat → Nat) (p : Nat) (e : Option Nat) : Prop := S.1 58 3 = nI T ∧ S.1 58 8 = nI p ∧ S.1 58 9 = wro e ∧ (∀ q, e = some q → q ≤ 200) ∧ ∀ j, j < T → S.2.1 60 j = nI (c j)
theorem MC.kept {S S' : st_S} {T : Nat} {c : Nat → Nat} {p : Nat} {e : Option Nat} (h : MC S T c p e) {ks ps : List Nat} (f : Mf ks ps S S') (k3 : 3 ∉ ks) (k8 : 8 ∉ ks) (k9 : 9 ∉ ks) (k60 : 60 ∉ ps) : MC S' T c p e := ⟨by rw [f.1 _ _ (fun z => k3 z.2)]; exact h.1, by rw [f.1 _ _ (fun z => k8 z.2)]; exact h.2.1, by rw [f.1 _ _ (fun z => k9 z.2)]; exact h.2.2.1, h.2.2.2.1, fun j hj => by rw [f.2.1 _ k60]; exact h.2.2.2.2 j hj⟩
theorem MC.at {S : st_S} {T : Nat} {c : Nat → Nat} {p : Nat} {e : Option Nat} (h : MC S T c p e) (p' : Nat) : MC (sI S 58 8 (nI p')) T c p' e := ⟨by rw [sI_ne _ _ (by omega)]; exact h.1, sI_at _ _ _ _, by rw [sI_ne _ _ (by omega)]; exact h.2.2.1, h.2.2.2.1, h.2.2.2.2⟩
theorem ar_r {S : st_S} {p n N : Nat} (hk : kd p = 10) (hl : ln p = N) (h : n < N) (hN : N < 2 ^ 31) {K : Int32 → Prop} : sa_I (hp S) p (nI n) K = K (S.2.1 p n) := by
  rw [ha_I hk, cl (by omega), hl]
  exact propext ⟨fun q => q.2, fun q => ⟨vi h hN, q⟩⟩
theorem ar_s {S : st_S} {p n N : Nat} (hk : kd p = 10) (hl : ln p = N) (h : n < N) (hN : N < 2 ^ 31) {x : Int32} {K : aw_H → Prop} : ss_I (hp S) p (nI n) x K = K (hp (sA S p n x)) := by
  rw [hs_I hk, cl (by omega), hl]
  exact propext ⟨fun q => q.2, fun q => ⟨vi h hN, q⟩⟩
theorem mt_l {S : st_S} {T : Nat} {c : Nat → Nat} {p : Nat} {e : Option Nat} (h : MC S T c p e) (hl : Ltr T c) {j : Nat} (hj : j < T) {K : Int32 → Prop} : sa_I (hp S) 60 (nI j) K = K (nI (c j)) := by
  have := hl.1
  rw [ar_r (p := 60) (N := 110) rfl rfl (by omega) (by omega), h.2.2.2.2 j hj]
theorem m_here {S : st_S} {T : Nat} {c : Nat → Nat} {p0 : Nat} {e : Option Nat} (h : MC S T c p0 e) (hl : Ltr T c) (hp0 : p0 ≤ 200) {Q : aw_R} (hq : ∀ S2, Mf [8] [] S S2 → MC S2 T c (skip T c p0) e → Q (some (.int (nI (chr T c (skip T c p0))))) (hp S2)) : tr_X7_here [.ref 58] (hp S) Q := by
  rw [tq_X7_here]
  intro K0 r0
  have hT := hl.1
  have done : ∀ p S1, T ≤ p → p ≤ 200 → Mf [8] [] S S1 → MC S1 T c p e → skip T c p = skip T c p0 → K0 58 (hp S1) := by
    intro p S1 hTp hp2 s1 t1 es
    apply r0
    unfold sm_X7_here_0
    rw [hq_I (k := 8) k58 rfl, t1.2.1, hq_I (k := 3) k58 rfl, t1.1, if_pos (nI_le hTp (by omega)), hq_I (k := 8) k58 rfl, t1.2.1, hq_I (k := 3) k58 rfl, t1.1, if_pos (nI_le hTp (by omega))]
    have := hq S1 s1 (by rw [← es, skip_end hTp]; exact t1)
    rw [← es, skip_end hTp, show chr T c p = 0 from if_neg (by omega)] at this
    exact this
  by_cases hb : T ≤ p0
  · exact done p0 S hb hp0 (Mf.rf _ _ S) h rfl
  · have main : ∀ m p S1, p + m = T → Mf [8] [] S S1 → MC S1 T c p e → skip T c p = skip T c p0 → K0 58 (hp S1) := by
      intro m
      induction m with
      | zero =>
        intro p S1 ep s1 t1 es
        exact done p S1 (by omega) (by omega) s1 t1 es
      | succ m ih =>
        intro p S1 ep s1 t1 es
        apply r0
        unfold sm_X7_here_0
        have hp : p < T := by omega
        have hcp := hl.2 p hp
        rw [hq_I (k := 8) k58 rfl, t1.2.1, hq_I (k := 3) k58 rfl, t1.1, if_neg (nI_ge hp (by omega)), m_2, hq_I (k := 8) k58 rfl, t1.2.1, mt_l t1 hl hp]
        by_cases hb : c p = 32
        · rw [if_neg (fun q => q (by rw [hb]; rfl)), hq_I (k := 8) k58 rfl, t1.2.1, nI_1, hq_P (k := 8) k58 rfl]
          exact ih (p + 1) _ (by omega) (s1.tr (Mf.I (by simp))) (t1.at _) (by rw [← es, skip_b hp hb])
        · rw [if_pos (show ¬ nI (c p) = 32 from fun q => hb ((nI_eq (b := 32) (by omega) (by omega)).mp q)), hq_I (k := 8) k58 rfl, t1.2.1, hq_I (k := 3) k58 rfl, t1.1, if_neg (nI_ge hp (by omega)), m_2, hq_I (k := 8) k58 rfl, t1.2.1, mt_l t1 hl hp]
          have := hq S1 s1 (by rw [← es, skip_n hp hb]; exact t1)
          rw [← es, skip_n hp hb, show chr T c p = c p from if_pos hp] at this
          exact this
    exact main (T - p0) p0 S (by omega) (Mf.rf _ _ S) h rfl
theorem nI_m4 {q : Nat} (h : q ≤ 200) : ¬ nI q = -4 := fun z => by
  have : ¬ nI q < 0 := nI_pos (by omega)
  rw [z] at this
  exact this (by decide)
theorem m_fine1 {S : st_S} {T : Nat} {c : Nat → Nat} {p : Nat} (h : MC S T c p none) {Q : aw_R} : tr_X7_fine [.ref 58] (hp S) Q = Q (some (.int 1)) (hp S) := by
  rw [propext tq_X7_fine]
  unfold sm_X7_fine_0
  rw [hq_I (k := 9) k58 rfl, h.2.2.1]
  exact if_neg (fun q => q rfl)
theorem m_fine0 {S : st_S} {T : Nat} {c : Nat → Nat} {p e : Nat} (h : MC S T c p (some e)) {Q : aw_R} : tr_X7_fine [.ref 58] (hp S) Q = Q (some (.int 0)) (hp S) := by
  rw [propext tq_X7_fine]
  unfold sm_X7_fine_0
  rw [hq_I (k := 9) k58 rfl, h.2.2.1]
  exact if_pos (nI_m4 (h.2.2.2.1 e rfl))
theorem m_fault1 {S : st_S} {T : Nat} {c : Nat → Nat} {p q : Nat} (h : MC S T c p none) (hb : q ≤ 200) {Q : aw_R} (hq : ∀ S2, Mf [9] [] S S2 → MC S2 T c p (some q) → Q none (hp S2)) : tr_X7_fault [.ref 58, .int (nI q)] (hp S) Q := by
  rw [tq_X7_fault]
  unfold sm_X7_fault_0
  rw [m_v, m_fine1 h]
  simp only [sr_I]
  rw [if_neg (by decide), hq_P (k := 9) k58 rfl]
  exact hq _ (Mf.I (by simp)) ⟨by rw [sI_ne _ _ (by omega)]; exact h.1, by rw [sI_ne _ _ (by omega)]; exact h.2.1, sI_at _ _ _ _, fun r e => by cases e; exact hb, h.2.2.2.2⟩
theorem m_fault0 {S : st_S} {T : Nat} {c : Nat → Nat} {p e : Nat} (h : MC S T c p (some e)) {v : Int32} {Q : aw_R} (hq : Q none (hp S)) : tr_X7_fault [.ref 58, .int v] (hp S) Q := by
  rw [tq_X7_fault]
  unfold sm_X7_fault_0
  rw [m_v, m_fine0 h]
  simp only [sr_I]
  rw [if_pos (by decide)]
  exact hq
theorem m_need {S : st_S} {T : Nat} {c : Nat → Nat} {p x : Nat} (h : MC S T c p none) (hl : Ltr T c) (hpT : p ≤ T) (hx : x < 200) {Q : aw_R} (hq1 : chr T c (skip T c p) = x → ∀ S2, Mf [8, 9] [] S S2 → MC S2 T c (skip T c p + 1) none → Q none (hp S2)) (hq0 : ¬ chr T c (skip T c p) = x → ∀ S2, Mf [8, 9] [] S S2 → MC S2 T c (skip T c p + 1) (some (skip T c p)) → Q none (hp S2)) : tr_X7_need [.ref 58, .int (nI x)] (hp S) Q := by
  rw [tq_X7_need]
  unfold sm_X7_need_0
  have hT := hl.1
  have hs := skip_le (c := c) hpT
  have hch : chr T c (skip T c p) ≤ 126 := by
    unfold chr
    split
    · rename_i hlt
      exact (hl.2 _ hlt).2
    · omega
  rw [m_v]
  refine m_here h hl (by omega) (fun S1 s1 t1 => ?_)
  simp only [sr_I]
  have s1' : Mf [8, 9] [] S S1 := s1.mono (by simp) (by simp)
  by_cases hc : chr T c (skip T c p) = x
  · rw [if_pos (by rw [hc]), hq_I (k := 8) k58 rfl, t1.2.1, nI_1, hq_P (k := 8) k58 rfl]
    exact hq1 hc _ (s1'.tr (Mf.I (by simp))) (t1.at _)
  · rw [if_neg (fun q => hc ((nI_eq (by omega) (by omega)).mp q)), hq_I (k := 8) k58 rfl, t1.2.1, m_v]
    refine m_fault1 t1 (by omega) (fun S2 s2 t2 => ?_)
    simp only [sr_V]
    rw [hq_I (k := 8) k58 rfl, t2.2.1, nI_1, hq_P (k := 8) k58 rfl]
    exact hq0 hc _ ((s1'.tr (s2.mono (by simp) (by simp))).tr (Mf.I (by simp))) (t2.at _)
theorem d48 : ∀ x, x < 48 → ∀ lo, lo < 10 → nI x - 48 < nI lo := by decide +kernel
theorem d_in {x lo hi : Nat} (hx : x ≤ 126) (hlo : lo < 10) (hhi : hi < 10) : inb (nI x - 48) (nI lo) (nI hi) = if 48 + lo ≤ x ∧ x ≤ 48 + hi then 1 else 0 := by
  unfold inb
  by_cases h : x < 48
  · rw [if_pos (d48 x h lo hlo), if_neg (by omega)]
  · rw [show nI x - (48 : Int32) = nI (x - 48) from pk_sub (b := 48) (by omega)]
    by_cases h1 : x - 48 < lo
    · rw [if_pos (nI_lt h1 (by omega)), if_neg (by omega)]
    · rw [if_neg (nI_nlt (by omega) (by omega))]
      by_cases h2 : hi < x - 48
      · rw [if_pos (nI_lt h2 (by omega)), if_neg (by omega)]
      · rw [if_neg (nI_nlt (by omega) (by omega)), if_pos (by omega)]
theorem chr_le {T : Nat} {c : Nat → Nat} (hl : Ltr T c) (p : Nat) : chr T c p ≤ 126 := by
  unfold chr
  split
  · rename_i hlt
    exact (hl.2 _ hlt).2
  · omega
theorem chr_d {T : Nat} {c : Nat → Nat} {p lo hi : Nat} (hhi : hi < 10) : (48 + lo ≤ chr T c p ∧ chr T c p ≤ 48 + hi) ↔ (isd T c p ∧ lo ≤ c p - 48 ∧ c p - 48 ≤ hi) := by
  unfold isd chr
  by_cases h : p < T
  · rw [if_pos h]
    omega
  · rw [if_neg h]
    omega
theorem m_digit {S : st_S} {T : Nat} {c : Nat → Nat} {p lo hi : Nat} (h : MC S T c p none) (hl : Ltr T c) (hpT : p ≤ T) (hlo : lo < 10) (hhi : hi < 10) {Q : aw_R} (hq1 : isd T c (skip T c p) → lo ≤ c (skip T c p) - 48 → c (skip T c p) - 48 ≤ hi → ∀ S2, Mf [8, 9] [] S S2 → MC S2 T c (skip T c p + 1) none → Q (some (.int (nI (c (skip T c p) - 48)))) (hp S2)) (hq0 : ¬ (isd T c (skip T c p) ∧ lo ≤ c (skip T c p) - 48 ∧ c (skip T c p) - 48 ≤ hi) → ∀ v S2, Mf [8, 9] [] S S2 → MC S2 T c (skip T c p + 1) (some (skip T c p)) → Q (some (.int v)) (hp S2)) : tr_X7_digit [.ref 58, .int (nI lo), .int (nI hi)] (hp S) Q := by
  rw [tq_X7_digit]
  unfold sm_X7_digit_0
  have hT := hl.1
  have hs := skip_le (c := c) hpT
  have hch := chr_le hl (skip T c p)
  have hcd := chr_d (T := T) (c := c) (p := skip T c p) (lo := lo) hhi
  rw [m_v]
  refine m_here h hl (by omega) (fun S1 s1 t1 => ?_)
  simp only [sr_I]
  have s1' : Mf [8, 9] [] S S1 := s1.mono (by simp) (by simp)
  rw [e_in, d_in hch hlo hhi]
  simp only [sr_I]
  by_cases hd : isd T c (skip T c p) ∧ lo ≤ c (skip T c p) - 48 ∧ c (skip T c p) - 48 ≤ hi
  · have ec : chr T c (skip T c p) = c (skip T c p) := if_pos hd.1.1
    rw [if_pos (hcd.mpr hd), if_pos (by decide), hq_I (k := 8) k58 rfl, t1.2.1, nI_1, hq_P (k := 8) k58 rfl, ec, show nI (c (skip T c p)) - (48 : Int32) = nI (c (skip T c p) - 48) from pk_sub (b := 48) (by have := hd.1.2.1; omega)]
    exact hq1 hd.1 hd.2.1 hd.2.2 _ (s1'.tr (Mf.I (by simp))) (t1.at _)
  · rw [if_neg (fun q => hd (hcd.mp q)), if_neg (by decide), hq_I (k := 8) k58 rfl, t1.2.1, m_v]
    refine m_fault1 t1 (by omega) (fun S2 s2 t2 => ?_)
    simp only [sr_V]
    rw [hq_I (k := 8) k58 rfl, t2.2.1, nI_1, hq_P (k := 8) k58 rfl]
    exact hq0 hd _ _ ((s1'.tr (s2.mono (by simp) (by simp))).tr (Mf.I (by simp))) (t2.at _)
/-- the bits behind the sign -/
def pst (T : Nat) (c : Nat → Nat) (W p : Nat) : Sum Nat (Nat × Nat) :=
  if isd T c (skip T c p) then
      (if isd T c (skip T c p + 1) then
        (if 10 * (c (skip T c p) - 48) + (c (skip T c p + 1) - 48) < 2 ^ W then .inr (10 * (c (skip T c p) - 48) + (c (skip T c p + 1) - 48), skip T c p + 1 + 1) else .inl (skip T c p))
      else (if c (skip T c p) - 48 < 2 ^ W then .inr (c (skip T c p) - 48, skip T c p + 1) else .inl (skip T c p)))
    else .inl (skip T c p)
theorem pbt_st (T : Nat) (c : Nat → Nat) (W p : Nat) : pbt T c W p = if chr T c (skip T c p) = 61 then pst T c W (skip T c p + 1) else .inr (0, skip T c p) := rfl
theorem m_100 {S S0 : st_S} {T : Nat} {c : Nat → Nat} {p W b f : Nat} (h : MC S T c p none) (s : Mf [8, 9, 10] [] S0 S) (hW : W ≤ 6) (hb : b < 200) (hf : f ≤ 200) {Q : aw_R}
    (hq0 : ¬ b < 2 ^ W → ∀ S2, Mf [8, 9, 10] [] S0 S2 → MC S2 T c p (some f) → Q none (hp S2))
    (hq1 : b < 2 ^ W → ∀ S2, Mf [8, 9, 10] [] S0 S2 → MC S2 T c p none → S2.1 58 10 = nI b → Q none (hp S2)) : sm_X7_readState_100 Q 58 (nI (2 ^ W)) (nI b) (nI f) (hp S) := by
  unfold sm_X7_readState_100
  have hw := pw_le hW
  by_cases h1 : b < 2 ^ W
  · rw [if_pos (nI_lt h1 (by omega)), hq_P (k := 10) k58 rfl]
    exact hq1 h1 _ (s.tr (Mf.I (by simp))) (h.kept (ks := [10]) (ps := []) (Mf.I (by simp)) (by simp) (by simp) (by simp) (by simp)) (sI_at _ _ _ _)
  · rw [if_neg (nI_nlt (by omega) (by omega)), m_v]
    refine m_fault1 h hf (fun S2 s2 t2 => ?_)
    simp only [sr_V]
    rw [hq_P (k := 10) k58 rfl]
    exact hq0 h1 _ ((s.tr (s2.mono (by simp) (by simp))).tr (Mf.I (by simp))) (t2.kept (ks := [10]) (ps := []) (Mf.I (by simp)) (by simp) (by simp) (by simp) (by simp))
theorem d_57 : ∀ x, x ≤ 126 → inb (nI x) 48 57 = if 48 ≤ x ∧ x ≤ 57 then 1 else 0 := by
  intro x hx
  exact (by decide +kernel : ∀ x, x < 127 → inb (nI x) 48 57 = if 48 ≤ x ∧ x ≤ 57 then 1 else 0) x (by omega)
theorem m_state {S : st_S} {T : Nat} {c : Nat → Nat} {p W : Nat} (h : MC S T c p none) (hl : Ltr T c) (hpT : p ≤ T) (hW : W ≤ 6) {Q : aw_R}
    (hq0 : ∀ e, pst T c W p = .inl e → ∀ S2 p', p' ≤ 200 → Mf [8, 9, 10] [] S S2 → MC S2 T c p' (some e) → Q none (hp S2))
    (hq1 : ∀ b p', pst T c W p = .inr (b, p') → p' ≤ T → ∀ S2, Mf [8, 9, 10] [] S S2 → MC S2 T c p' none → S2.1 58 10 = nI b → Q none (hp S2)) : tr_X7_readState [.ref 58, .int (nI (2 ^ W))] (hp S) Q := by
  rw [tq_X7_readState]
  unfold sm_X7_readState_0
  have hT := hl.1
  have hs := skip_le (c := c) hpT
  have hch := chr_le hl (skip T c p)
  have hcd := chr_d (T := T) (c := c) (p := skip T c p) (lo := 0) (hi := 9) (by omega)
  have din : inb (nI (chr T c (skip T c p)) - 48) 0 9 = if 48 + 0 ≤ chr T c (skip T c p) ∧ chr T c (skip T c p) ≤ 48 + 9 then 1 else 0 := d_in (lo := 0) (hi := 9) hch (by omega) (by omega)
  unfold pst at hq0 hq1
  rw [m_v]
  refine m_here h hl (by omega) (fun S1 s1 t1 => ?_)
  simp only [sr_I]
  have s1' : Mf [8, 9, 10] [] S S1 := s1.mono (by simp) (by simp)
  rw [hq_I (k := 8) k58 rfl, t1.2.1, e_in, din]
  simp only [sr_I]
  generalize skip T c p = q at *
  by_cases hd : isd T c q
  · have ec : chr T c q = c q := if_pos hd.1
    have h48 := hd.2.1
    have h57 := hd.2.2
    have hq1T := hd.1
    rw [if_pos (hcd.mpr ⟨hd, by omega, by omega⟩), if_pos (by decide), hq_I (k := 8) k58 rfl, t1.2.1, nI_1, hq_P (k := 8) k58 rfl, ec, show nI (c q) - (48 : Int32) = nI (c q - 48) from pk_sub (b := 48) h48]
    rw [if_pos hd] at hq0 hq1
    have s2 := s1'.tr (Mf.I (S := S1) (k := 8) (v := nI (q + 1)) (ks := [8, 9, 10]) (ps := []) (by simp))
    have t2 := t1.at (q + 1)
    generalize sI S1 58 8 (nI (q + 1)) = S2 at *
    rw [hq_I (k := 8) k58 rfl, t2.2.1, hq_I (k := 3) k58 rfl, t2.1]
    have one : ¬ isd T c (q + 1) → sm_X7_readState_100 Q 58 (nI (2 ^ W)) (nI (c q - 48)) (nI q) (hp S2) := fun hn => by
      rw [if_neg hn] at hq0 hq1
      refine m_100 t2 s2 hW (by omega) (by omega) (fun hb S3 s3 t3 => ?_) (fun hb S3 s3 t3 z3 => ?_)
      · exact hq0 q (by rw [if_neg hb]) S3 (q + 1) (by omega) s3 t3
      · exact hq1 _ _ (by rw [if_pos hb]) (by omega) S3 s3 t3 z3
    by_cases hend : T ≤ q + 1
    · rw [if_pos (nI_le hend (by omega))]
      exact one (fun z => by have := z.1; omega)
    · have hlt : q + 1 < T := by omega
      have hc1 := hl.2 _ hlt
      rw [if_neg (nI_ge hlt (by omega)), m_2, hq_I (k := 8) k58 rfl, t2.2.1, mt_l t2 hl hlt, e_in, d_57 _ hc1.2]
      simp only [sr_I]
      by_cases hd2 : isd T c (q + 1)
      · have h482 := hd2.2.1
        have h572 := hd2.2.2
        rw [if_pos hd2.2, if_neg (by decide), m_2, hq_I (k := 8) k58 rfl, t2.2.1, mt_l t2 hl hlt, hq_I (k := 8) k58 rfl, t2.2.1, nI_1, hq_P (k := 8) k58 rfl]
        rw [if_pos hd2] at hq0 hq1
        have s3 := s2.tr (Mf.I (S := S2) (k := 8) (v := nI (q + 1 + 1)) (ks := [8, 9, 10]) (ps := []) (by simp))
        have t3 := t2.at (q + 1 + 1)
        generalize sI S2 58 8 (nI (q + 1 + 1)) = S3 at *
        have ev : (10 : Int32) * nI (c q - 48) + nI (c (q + 1)) - 48 = nI (10 * (c q - 48) + (c (q + 1) - 48)) := by
          rw [show (10 : Int32) = nI 10 from rfl, pk_mul, nI_add, show (48 : Int32) = nI 48 from rfl, pk_sub (by omega)]
          congr 1
          omega
        rw [ev]
        refine m_100 t3 s3 hW (by omega) (by omega) (fun hb S4 s4 t4 => ?_) (fun hb S4 s4 t4 z4 => ?_)
        · exact hq0 q (by rw [if_neg hb]) S4 (q + 1 + 1) (by omega) s4 t4
        · exact hq1 _ _ (by rw [if_pos hb]) (by omega) S4 s4 t4 z4
      · rw [if_neg (fun z => hd2 ⟨hlt, z⟩), if_pos (by decide)]
        exact one hd2
  · rw [if_neg hd] at hq0
    rw [if_neg (fun z => hd (hcd.mp z).1), if_neg (by decide), hq_I (k := 8) k58 rfl, t1.2.1, m_v]
    refine m_fault1 t1 (by omega) (fun S2 s2 t2 => ?_)
    simp only [sr_V]
    exact hq0 q rfl S2 q (by omega) (s1'.tr (s2.mono (by simp) (by simp))) t2
theorem e_MkindOf {x : Nat} (hx : x < 200) {h : aw_H} {Q : aw_R} : tr_X7_kindOf [.int (nI x)] h Q = Q (some (.int (match kno x with | some k => nI k | none => -4))) h := by
  rw [propext tq_X7_kindOf]
  unfold sm_X7_kindOf_0 kno
  have e : ∀ n, n < 200 → (nI x = nI n ↔ x = n) := fun n hn => nI_eq (by omega) (by omega)
  have e98 : nI x = (98 : Int32) ↔ x = 98 := e 98 (by omega)
  have e99 : nI x = (99 : Int32) ↔ x = 99 := e 99 (by omega)
  have e105 : nI x = (105 : Int32) ↔ x = 105 := e 105 (by omega)
  have e112 : nI x = (112 : Int32) ↔ x = 112 := e 112 (by omega)
  have e116 : nI x = (116 : Int32) ↔ x = 116 := e 116 (by omega)
  by_cases h1 : x = 98
  · rw [if_pos (e98.mpr h1), if_pos h1]
    rfl
  rw [if_neg (fun q => h1 (e98.mp q)), if_neg h1]
  by_cases h2 : x = 99
  · rw [if_pos (e99.mpr h2), if_pos h2]
    rfl
  rw [if_neg (fun q => h2 (e99.mp q)), if_neg h2]
  by_cases h3 : x = 105
  · rw [if_pos (e105.mpr h3), if_pos h3]
    rfl
  rw [if_neg (fun q => h3 (e105.mp q)), if_neg h3]
  by_cases h4 : x = 112
  · rw [if_pos (e112.mpr h4), if_pos h4]
    rfl
  rw [if_neg (fun q => h4 (e112.mp q)), if_neg h4]
  by_cases h5 : x = 116
  · rw [if_pos (e116.mpr h5), if_pos h5]
    rfl
  rw [if_neg (fun q => h5 (e116.mp q)), if_neg h5]
/-- the n-th gate read -/
def R5 (S : st_S) (n : Nat) (k t0 t1 t2 d : Int32) : Prop := S.2.1 65 (5 * n) = k ∧ S.2.1 65 (5 * n + 1) = t0 ∧ S.2.1 65 (5 * n + 2) = t1 ∧ S.2.1 65 (5 * n + 3) = t2 ∧ S.2.1 65 (5 * n + 4) = d
