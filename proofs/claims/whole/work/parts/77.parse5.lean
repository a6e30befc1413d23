/-! CIRCUIT: the reference reads gates -/
theorem m_135 {S S0 : st_S} {T : Nat} {c : Nat → Nat} {pp n k : Nat} {e : Option Nat} (h : MC S T c pp e) (hl : Ltr T c) (hpp : pp ≤ 150) (hn : n < 16) (s : Mf [8, 9, 11] [65, 66] S0 S) (h11 : S.1 58 11 = nI n) {K35 K55 : Nat → Int32 → Int32 → Int32 → aw_H → Prop} {K95 : Nat → Int32 → Int32 → Int32 → Int32 → Int32 → aw_H → Prop} {Q : aw_R}
    (hq : ∀ S2, Mf [8, 9, 11] [65, 66] S0 S2 → MC S2 T c (if chr T c (skip T c pp) = 33 then skip T c pp + 1 else skip T c pp) e → S2.1 58 11 = nI (n + 1) → (∀ j, j < 5 * n → S2.2.1 65 j = S.2.1 65 j) → R5 S2 n (nI k) (S.2.1 66 0) (S.2.1 66 1) (S.2.1 66 2) (if chr T c (skip T c pp) = 33 then 1 else 0) → Q none (hp S2)) : sm_X7_readGate_135 K35 K55 K95 Q 58 (nI k) (hp S) := by
  unfold sm_X7_readGate_135
  have hT := hl.1
  have hch := chr_le hl (skip T c pp)
  have hsk : skip T c pp ≤ 150 := skip_le2 hpp (by omega)
  have i0 : (5 : Int32) * nI n = nI (5 * n) := by rw [show (5 : Int32) = nI 5 from rfl, pk_mul]
  have i1 : nI (5 * n) + (1 : Int32) = nI (5 * n + 1) := nI_add (5 * n) 1
  have i2 : nI (5 * n) + (2 : Int32) = nI (5 * n + 2) := nI_add (5 * n) 2
  have i3 : nI (5 * n) + (3 : Int32) = nI (5 * n + 3) := nI_add (5 * n) 3
  have i4 : nI (5 * n) + (4 : Int32) = nI (5 * n + 4) := nI_add (5 * n) 4
  have r66 : ∀ (S' : st_S) (j : Nat) (hj : j < 3) (K : Int32 → Prop), sa_I (hp S') 66 (nI j) K = K (S'.2.1 66 j) := fun S' j hj K => ar_r (p := 66) (N := 3) rfl rfl hj (by omega)
  have w65 : ∀ (S' : st_S) (j : Nat) (hj : j < 80) (x : Int32) (K : aw_H → Prop), ss_I (hp S') 65 (nI j) x K = K (hp (sA S' 65 j x)) := fun S' j hj x K => ar_s (p := 65) (N := 80) rfl rfl hj (by omega)
  rw [hq_I (k := 11) k58 rfl, h11, i0, m_12, w65 _ _ (by omega)]
  rw [m_12, m_13, show (sa_I (hp _) 66 0 _) = _ from r66 _ 0 (by omega) _, i1, w65 _ _ (by omega)]
  rw [m_12, m_13, show (sa_I (hp _) 66 1 _) = _ from r66 _ 1 (by omega) _, i2, w65 _ _ (by omega)]
  rw [m_12, m_13, show (sa_I (hp _) 66 2 _) = _ from r66 _ 2 (by omega) _, i3, w65 _ _ (by omega)]
  simp only [sA_F, sF_F, sF_at]
  simp only [sF_ne _ _ (show (66 : Nat) ≠ 65 by decide)]
  generalize hf : upd (upd (upd (upd (S.2.1 65) (5 * n) (nI k)) (5 * n + 1) (S.2.1 66 0)) (5 * n + 2) (S.2.1 66 1)) (5 * n + 3) (S.2.1 66 2) = f
  have fm : Mf [8, 9, 11] [65, 66] S (sF S 65 f) := ⟨fun _ _ _ => rfl, fun q z => sF_ne S _ (fun y => z (by simp [y])), rfl⟩
  have t1 : MC (sF S 65 f) T c pp e := h.kept (ks := []) (ps := [65]) ⟨fun _ _ _ => rfl, fun q z => sF_ne S _ (fun y => z (by simp [y])), rfl⟩ (by simp) (by simp) (by simp) (by simp)
  have f1 : (sF S 65 f).2.1 65 = f := sF_at _ _ _
  have g11 : (sF S 65 f).1 58 11 = nI n := h11
  generalize sF S 65 f = S1 at *
  rw [m_12, m_v]
  refine m_here t1 hl (by omega) (fun S2 s2 t2 => ?_)
  simp only [sr_I]
  have f2 : S2.2.1 65 = f := by rw [s2.2.1 65 (by simp)]; exact f1
  have g2 : S2.1 58 11 = nI n := by rw [s2.1 58 11 (by simp)]; exact g11
  have s02 := (s.tr fm).tr (s2.mono (ks' := [8, 9, 11]) (ps' := [65, 66]) (by simp) (by simp))
  have last : ∀ d : Nat, d < 2 → (if chr T c (skip T c pp) = 33 then skip T c pp + 1 else skip T c pp) = skip T c pp + d → (if chr T c (skip T c pp) = 33 then (1 : Int32) else 0) = nI d → sm_X7_readGate_212 K35 K55 K95 Q 58 (nI (5 * n)) 65 (nI (5 * n) + 4) (nI d) (hp S2) := by
    intro d hd e1 e2
    unfold sm_X7_readGate_212
    rw [i4, w65 _ _ (by omega)]
    have s3 := s02.tr (Mf.A (S := S2) (p := 65) (j := 5 * n + 4) (v := nI d) (ks := [8, 9, 11]) (ps := [65, 66]) (by simp))
    have t3 : MC (sA S2 65 (5 * n + 4) (nI d)) T c (skip T c pp) e := t2.kept (ks := []) (ps := [65]) (Mf.A (by simp)) (by simp) (by simp) (by simp) (by simp)
    have f3 : (sA S2 65 (5 * n + 4) (nI d)).2.1 65 = upd f (5 * n + 4) (nI d) := by rw [sA_F, sF_at, f2]
    have g3 : (sA S2 65 (5 * n + 4) (nI d)).1 58 11 = nI n := g2
    generalize sA S2 65 (5 * n + 4) (nI d) = S3 at *
    rw [hq_I (k := 8) k58 rfl, t3.2.1, m_12, ar_r (p := 65) (N := 80) rfl rfl (by omega) (by omega), f3, pk_us, nI_add, hq_P (k := 8) k58 rfl]
    have s4 := s3.tr (Mf.I (S := S3) (k := 8) (v := nI (skip T c pp + d)) (ks := [8, 9, 11]) (ps := [65, 66]) (by simp))
    have t4 := t3.at (skip T c pp + d)
    have f4 : (sI S3 58 8 (nI (skip T c pp + d))).2.1 65 = upd f (5 * n + 4) (nI d) := f3
    have g4 : (sI S3 58 8 (nI (skip T c pp + d))).1 58 11 = nI n := by rw [sI_ne _ _ (by omega)]; exact g3
    generalize sI S3 58 8 (nI (skip T c pp + d)) = S4 at *
    rw [hq_I (k := 11) k58 rfl, g4, nI_1, hq_P (k := 11) k58 rfl]
    refine hq _ (s4.tr (Mf.I (by simp))) (by rw [e1]; exact t4.kept (ks := [11]) (ps := []) (Mf.I (by simp)) (by simp) (by simp) (by simp) (by simp)) (sI_at _ _ _ _) (fun j hj => ?_) ?_
    · show S4.2.1 65 j = S.2.1 65 j
      rw [f4, pk_un (by omega), ← hf, pk_un (by omega), pk_un (by omega), pk_un (by omega), pk_un (by omega)]
    · show S4.2.1 65 (5 * n) = _ ∧ S4.2.1 65 (5 * n + 1) = _ ∧ S4.2.1 65 (5 * n + 2) = _ ∧ S4.2.1 65 (5 * n + 3) = _ ∧ S4.2.1 65 (5 * n + 4) = _
      rw [f4, e2, ← hf]
      refine ⟨?_, ?_, ?_, ?_, ?_⟩
      · rw [pk_un (by omega), pk_un (by omega), pk_un (by omega), pk_un (by omega), pk_us]
      · rw [pk_un (by omega), pk_un (by omega), pk_un (by omega), pk_us]
      · rw [pk_un (by omega), pk_un (by omega), pk_us]
      · rw [pk_un (by omega), pk_us]
      · rw [pk_us]
  by_cases h33 : chr T c (skip T c pp) = 33
  · rw [if_neg (fun z => z (by rw [h33]; rfl))]
    exact last 1 (by omega) (if_pos h33) (if_pos h33)
  · rw [if_pos (show ¬ nI (chr T c (skip T c pp)) = 33 from fun z => h33 ((nI_eq (b := 33) (by omega) (by omega)).mp z))]
    exact last 0 (by omega) (if_neg h33) (if_neg h33)
theorem m_gate {S : st_S} {T : Nat} {c : Nat → Nat} {p W n : Nat} (h : MC S T c p none) (hl : Ltr T c) (hpT : p ≤ T) (hW : 2 ≤ W ∧ W ≤ 6) (hn : n < 16) (h11 : S.1 58 11 = nI n) {Q : aw_R}
    (hq0 : ∀ e, rgt T c W p = .inl e → ∀ S2 p', p' ≤ 200 → Mf [8, 9, 11] [65, 66] S S2 → MC S2 T c p' (some e) → Q none (hp S2))
    (hq1 : ∀ g p', rgt T c W p = .inr (g, p') → p' ≤ T → ∀ S2, Mf [8, 9, 11] [65, 66] S S2 → MC S2 T c p' none → S2.1 58 11 = nI (n + 1) → (∀ j, j < 5 * n → S2.2.1 65 j = S.2.1 65 j) → R5 S2 n (nI g.1) (nI g.2.1) (nI g.2.2.1) (nI g.2.2.2.1) (nI g.2.2.2.2) → Q none (hp S2)) : tr_X7_readGate [.ref 58, .int (nI W)] (hp S) Q := by
  rw [tq_X7_readGate]
  intro K35 K55 K95 r35 r55 r95
  unfold sm_X7_readGate_0
  have hT := hl.1
  have hs := skip_le (c := c) hpT
  have hch := chr_le hl (skip T c p)
  rw [m_v]
  refine m_here h hl (by omega) (fun S1 s1 t1 => ?_)
  simp only [sr_I]
  rw [e_MkindOf (by omega)]
  simp only [sr_I]
  cases hk : kno (chr T c (skip T c p)) with
  | none =>
    rw [if_neg (fun z => z rfl), hq_I (k := 8) k58 rfl, t1.2.1, m_v]
    refine m_fault1 t1 (by omega) (fun S2 s2 t2 => ?_)
    simp only [sr_V]
    exact hq0 _ (by unfold rgt; rw [hk]) S2 _ (by omega) ((s1.mono (by simp) (by simp)).tr (s2.mono (by simp) (by simp))) t2
  | some k =>
    have hk5 := kno_lt hk
    have hlt : skip T c p < T := by
      apply Decidable.byContradiction
      intro z
      rw [show chr T c (skip T c p) = 0 from if_neg z] at hk
      rw [show kno 0 = none from rfl] at hk
      cases hk
    have hres : rgt T c W p = match rwr T c W (gwo k) 0 (fun _ => 0) (skip T c p + 1) with
      | .inl e => .inl e
      | .inr (ws, p') => if chr T c (skip T c p') = 33 then .inr ((k, ws 0, ws 1, ws 2, 1), skip T c p' + 1) else .inr ((k, ws 0, ws 1, ws 2, 0), skip T c p') := by
      unfold rgt
      rw [hk]
      all_goals rfl
    have g3 : gwo k ≤ 3 := (by decide +kernel : ∀ k, k < 5 → gwo k ≤ 3) k hk5
    show (if ¬ nI k = -4 then _ else _)
    rw [if_pos (nI_m4 (by omega)), hq_I (k := 8) k58 rfl, t1.2.1, nI_1, hq_P (k := 8) k58 rfl]
    have s1' : Mf [8, 9] [66] S (sI S1 58 8 (nI (skip T c p + 1))) := (s1.mono (by simp) (by simp)).tr (Mf.I (by simp))
    have t1' := t1.at (skip T c p + 1)
    generalize sI S1 58 8 (nI (skip T c p + 1)) = S1' at *
    have r66 : ∀ (S' : st_S) (j : Nat) (hj : j < 3) (K : Int32 → Prop), sa_I (hp S') 66 (nI j) K = K (S'.2.1 66 j) := fun S' j hj K => ar_r (p := 66) (N := 3) rfl rfl hj (by omega)
    have w66 : ∀ (S' : st_S) (j : Nat) (hj : j < 3) (x : Int32) (K : aw_H → Prop), ss_I (hp S') 66 (nI j) x K = K (hp (sA S' 66 j x)) := fun S' j hj x K => ar_s (p := 66) (N := 3) rfl rfl hj (by omega)
    have k11 : ∀ S2, Mf [8, 9] [66] S S2 → S2.1 58 11 = nI n := fun S2 s2 => by rw [s2.1 58 11 (by simp)]; exact h11
    have k65 : ∀ S2, Mf [8, 9] [66] S S2 → S2.2.1 65 = S.2.1 65 := fun S2 s2 => s2.2.1 65 (by simp)
    have m9 : ∀ S2, Mf [8, 9] [66] S S2 → Mf [8, 9, 11] [65, 66] S S2 := fun S2 s2 => s2.mono (by simp) (by simp)
    -- a fault has been found
    have fail55 : ∀ E j pp S2, rgt T c W p = .inl E → j ≤ 3 → pp ≤ 150 → Mf [8, 9] [66] S S2 → MC S2 T c pp (some E) → K55 58 (nI W) (nI k) (nI j) (hp S2) := by
      intro E j pp S2 hE hj hpp s2 t2
      apply r55
      unfold sm_X7_readGate_55
      rw [e_MwiresOf, gwo_m k hk5]
      simp only [sr_I]
      have all : sm_X7_readGate_135 K35 K55 K95 Q 58 (nI k) (hp S2) := m_135 t2 hl hpp hn (m9 _ s2) (k11 _ s2) (fun S3 s3 t3 _ _ _ => hq0 E hE S3 _ (by have := skip_le2 (T := T) (c := c) hpp (by omega); split <;> omega) s3 t3)
      by_cases hj2 : gwo k ≤ j
      · rw [if_pos (nI_le hj2 (by omega))]
        exact all
      · rw [if_neg (nI_ge (by omega) (by omega)), m_v, m_fine0 t2]
        simp only [sr_I]
        rw [if_pos (by decide)]
        exact all
    have fail95 : ∀ E j q r i pp S2, rgt T c W p = .inl E → j ≤ 2 → pp ≤ 150 → i + r = j → Mf [8, 9] [66] S S2 → MC S2 T c pp (some E) → K95 58 (nI W) (nI k) (nI j) q (nI i) (hp S2) := by
      intro E j q r
      induction r with
      | zero =>
        intro i pp S2 hE hj hpp hi s2 t2
        apply r95
        unfold sm_X7_readGate_95
        rw [if_pos (nI_le (by omega) (by omega)), nI_1]
        exact fail55 E _ pp S2 hE (by omega) hpp s2 t2
      | succ r ih =>
        intro i pp S2 hE hj hpp hi s2 t2
        apply r95
        unfold sm_X7_readGate_95
        rw [if_neg (nI_ge (by omega) (by omega)), m_13, r66 _ _ (by omega), m_13, r66 _ _ (by omega), nI_1]
        have nx := ih (i + 1) pp S2 hE hj hpp (by omega) s2 t2
        by_cases hd : S2.2.1 66 i = S2.2.1 66 j
        · rw [if_neg (fun z => z hd), m_v]
          refine m_fault0 t2 ?_
          simp only [sr_V]
          exact nx
        · rw [if_pos hd]
          exact nx
    have main : ∀ m j ws pp S2, j + m = gwo k → pp ≤ T → Mf [8, 9] [66] S S2 → MC S2 T c pp none → (∀ i, i < 3 → S2.2.1 66 i = nI (ws i)) → Wok W j ws → rwr T c W m j ws pp = rwr T c W (gwo k) 0 (fun _ => 0) (skip T c p + 1) → K55 58 (nI W) (nI k) (nI j) (hp S2) := by
      intro m
      induction m with
      | zero =>
        intro j ws pp S2 ej hpp s2 t2 w2 wk er
        have er : (Sum.inr (ws, pp) : Sum Nat ((Nat → Nat) × Nat)) = rwr T c W (gwo k) 0 (fun _ => 0) (skip T c p + 1) := er
        rw [← er] at hres
        have hres : rgt T c W p = if chr T c (skip T c pp) = 33 then .inr ((k, ws 0, ws 1, ws 2, 1), skip T c pp + 1) else .inr ((k, ws 0, ws 1, ws 2, 0), skip T c pp) := hres
        apply r55
        unfold sm_X7_readGate_55
        rw [e_MwiresOf, gwo_m k hk5]
        simp only [sr_I]
        rw [if_pos (nI_le (by omega) (by omega))]
        have hsp := skip_le (c := c) hpp
        refine m_135 t2 hl (by omega) hn (m9 _ s2) (k11 _ s2) (fun S3 s3 t3 e3 f3 q3 => ?_)
        rw [k65 _ s2] at f3
        rw [w2 0 (by omega), w2 1 (by omega), w2 2 (by omega)] at q3
        by_cases h33 : chr T c (skip T c pp) = 33
        · rw [if_pos h33] at hres t3 q3
          have hlt2 : skip T c pp < T := by
            apply Decidable.byContradiction
            intro z
            rw [show chr T c (skip T c pp) = 0 from if_neg z] at h33
            omega
          exact hq1 _ _ hres (by omega) S3 s3 t3 e3 f3 q3
        · rw [if_neg h33] at hres t3 q3
          exact hq1 _ _ hres (by omega) S3 s3 t3 e3 f3 q3
      | succ m ih =>
        intro j ws pp S2 ej hpp s2 t2 w2 wk er
        have hs2 := skip_le (c := c) hpp
        have er' : (if isd T c (skip T c pp) ∧ c (skip T c pp) - 48 < W ∧ (∀ i, i < j → ws i ≠ c (skip T c pp) - 48) then rwr T c W m (j + 1) (fun i => if i = j then c (skip T c pp) - 48 else ws i) (skip T c pp + 1) else .inl (skip T c pp)) = rwr T c W (gwo k) 0 (fun _ => 0) (skip T c p + 1) := er
        have bad : ¬ (isd T c (skip T c pp) ∧ c (skip T c pp) - 48 < W ∧ (∀ i, i < j → ws i ≠ c (skip T c pp) - 48)) → rgt T c W p = .inl (skip T c pp) := fun hnn => by
          rw [if_neg hnn] at er'
          rw [← er'] at hres
          exact hres
        apply r55
        unfold sm_X7_readGate_55
        rw [e_MwiresOf, gwo_m k hk5]
        simp only [sr_I]
        rw [if_neg (nI_ge (by omega) (by omega)), m_v, m_fine1 t2]
        simp only [sr_I]
        rw [if_neg (by decide), m_13, m_v, show nI W - (1 : Int32) = nI (W - 1) from pk_sub (b := 1) (by omega), show (0 : Int32) = nI 0 from rfl]
        have back : ∀ x : Nat, nI (x + 1) - (1 : Int32) = nI x := fun x => pk_sub (a := x + 1) (b := 1) (by omega)
        refine m_digit t2 hl hpp (by omega) (by omega) (fun hd _ hhi S3 s3 t3 => ?_) (fun hd v S3 s3 t3 => ?_)
        · simp only [sr_I]
          rw [w66 _ _ (by omega)]
          have hdW : c (skip T c pp) - 48 < W := by omega
          have s4 : Mf [8, 9] [66] S (sA S3 66 j (nI (c (skip T c pp) - 48))) := (s2.tr (s3.mono (by simp) (by simp))).tr (Mf.A (by simp))
          have t4 : MC (sA S3 66 j (nI (c (skip T c pp) - 48))) T c (skip T c pp + 1) none := t3.kept (ks := []) (ps := [66]) (Mf.A (by simp)) (by simp) (by simp) (by simp) (by simp)
          have w4 : ∀ i, i < 3 → (sA S3 66 j (nI (c (skip T c pp) - 48))).2.1 66 i = nI (if i = j then c (skip T c pp) - 48 else ws i) := fun i hi => by
            rw [sA_F, sF_at]
            by_cases hij : i = j
            · subst hij
              rw [pk_us, if_pos rfl]
            · rw [pk_un hij, if_neg hij, s3.2.1 66 (by simp)]
              exact w2 i hi
          generalize sA S3 66 j (nI (c (skip T c pp) - 48)) = S4 at *
          rw [hq_I (k := 8) k58 rfl, t4.2.1, back]
          have hws : ∀ i, i < j → ws i < W := wk.1
          have dup : ∀ r i, i + r = j → (∀ i', i' < i → ws i' ≠ c (skip T c pp) - 48) → K95 58 (nI W) (nI k) (nI j) (nI (skip T c pp)) (nI i) (hp S4) := by
            intro r
            induction r with
            | zero =>
              intro i hi hno
              have hi : i = j := hi
              subst hi
              apply r95
              unfold sm_X7_readGate_95
              rw [if_pos (nI_le (by omega) (by omega)), nI_1]
              have good : isd T c (skip T c pp) ∧ c (skip T c pp) - 48 < W ∧ (∀ i', i' < i → ws i' ≠ c (skip T c pp) - 48) := ⟨hd, hdW, hno⟩
              rw [if_pos good] at er'
              exact ih (i + 1) _ (skip T c pp + 1) S4 (by omega) (by have := hd.1; omega) s4 t4 w4 (wk.step hdW hno) er'
            | succ r ihr =>
              intro i hi hno
              apply r95
              unfold sm_X7_readGate_95
              rw [if_neg (nI_ge (by omega) (by omega)), m_13, r66 _ _ (by omega), m_13, r66 _ _ (by omega), w4 i (by omega), w4 j (by omega), if_neg (show ¬ i = j by omega), if_pos rfl, nI_1]
              have hwi := hws i (by omega)
              by_cases hdd : ws i = c (skip T c pp) - 48
              · rw [if_neg (fun z => z (by rw [hdd])), m_v]
                refine m_fault1 t4 (by omega) (fun S5 s5 t5 => ?_)
                simp only [sr_V]
                exact fail95 _ j _ r (i + 1) _ S5 (bad (fun z => z.2.2 i (by omega) hdd)) (by omega) (by omega) (by omega) (s4.tr (s5.mono (by simp) (by simp))) t5
              · rw [if_pos (fun z => hdd ((nI_eq (by omega) (by omega)).mp z))]
                exact ihr (i + 1) (by omega) (fun i' hi' => by
                  by_cases hii : i' = i
                  · rw [hii]; exact hdd
                  · exact hno i' (by omega))
          exact dup j 0 (by omega) (fun i' hi' => absurd hi' (Nat.not_lt_zero _))
        · simp only [sr_I]
          rw [w66 _ _ (by omega)]
          have s4 : Mf [8, 9] [66] S (sA S3 66 j v) := (s2.tr (s3.mono (by simp) (by simp))).tr (Mf.A (by simp))
          have t4 : MC (sA S3 66 j v) T c (skip T c pp + 1) (some (skip T c pp)) := t3.kept (ks := []) (ps := [66]) (Mf.A (by simp)) (by simp) (by simp) (by simp) (by simp)
          generalize sA S3 66 j v = S4 at *
          rw [hq_I (k := 8) k58 rfl, t4.2.1, back]
          exact fail95 _ j _ j 0 _ S4 (bad (fun z => hd ⟨z.1, by omega, by omega⟩)) (by omega) (by omega) (by omega) s4 t4
    have zero : ∀ r i S2, i + r = 3 → Mf [8, 9] [66] S S2 → MC S2 T c (skip T c p + 1) none → (∀ i', i' < i → S2.2.1 66 i' = 0) → K35 58 (nI W) (nI k) (nI i) (hp S2) := by
      intro r
      induction r with
      | zero =>
        intro i S2 hi s2 t2 z2
        apply r35
        unfold sm_X7_readGate_35
        rw [if_pos (show (3 : Int32) ≤ nI i from nI_le (a := 3) (by omega) (by omega)), show (0 : Int32) = nI 0 from rfl]
        exact main (gwo k) 0 (fun _ => 0) (skip T c p + 1) S2 (by omega) (by omega) s2 t2 (fun i' hi' => z2 i' (by omega)) ⟨fun j hj => absurd hj (Nat.not_lt_zero j), fun _ _ => rfl, fun i j _ hj => absurd hj (Nat.not_lt_zero j)⟩ rfl
      | succ r ihr =>
        intro i S2 hi s2 t2 z2
        apply r35
        unfold sm_X7_readGate_35
        rw [if_neg (show ¬ (3 : Int32) ≤ nI i from nI_ge (b := 3) (by omega) (by omega)), m_13, w66 _ _ (by omega), nI_1]
        refine ihr (i + 1) _ (by omega) (s2.tr (Mf.A (by simp))) (t2.kept (ks := []) (ps := [66]) (Mf.A (by simp)) (by simp) (by simp) (by simp) (by simp)) (fun i' hi' => ?_)
        rw [sA_F, sF_at]
        by_cases hii : i' = i
        · subst hii
          rw [pk_us]
        · rw [pk_un hii]
          exact z2 i' (by omega)
    exact zero 3 0 S1' (by omega) s1' t1' (fun i' hi' => absurd hi' (Nat.not_lt_zero _))
/-- the gates read -/
def RD (S : st_S) (n : Nat) (γ : Nat → gt) : Prop := ∀ g, g < n → R5 S g (nI (γ g).1) (nI (γ g).2.1) (nI (γ g).2.2.1) (nI (γ g).2.2.2.1) (nI (γ g).2.2.2.2)
theorem m_gates {S : st_S} {T : Nat} {c : Nat → Nat} {p W : Nat} (h : MC S T c p none) (hl : Ltr T c) (hpT : p ≤ T) (hW : 2 ≤ W ∧ W ≤ 6) (h11 : S.1 58 11 = nI 0) {Q : aw_R}
    (hq0 : ∀ e, prg T c W p = .inl e → ∀ S2 p', Mf [8, 9, 11] [65, 66] S S2 → MC S2 T c p' (some e) → Q none (hp S2))
    (hq1 : ∀ n γ, prg T c W p = .inr (n, γ) → ∀ S2 p', Mf [8, 9, 11] [65, 66] S S2 → MC S2 T c p' none → S2.1 58 11 = nI n → RD S2 n γ → Q none (hp S2)) : tr_X7_readGates [.ref 58, .int (nI W)] (hp S) Q := by
  rw [tq_X7_readGates]
  intro K20 r20
  unfold sm_X7_readGates_0
  have hT := hl.1
  have hs := skip_le (c := c) hpT
  have stop : ∀ S2, Q none (hp S2) → K20 58 (nI W) 0 (hp S2) := fun S2 q => by
    apply r20
    unfold sm_X7_readGates_20
    rw [if_pos (by decide)]
    exact q
  have m9 : ∀ {S2 S3 : st_S} {ks : List Nat}, Mf ks [] S2 S3 → (∀ k ∈ ks, k ∈ [8, 9, 11]) → Mf [8, 9, 11] [65, 66] S2 S3 := fun q z => q.mono z (by simp)
  have c0 : ∀ q, nI (chr T c q) = 0 ↔ T ≤ q := fun q => by
    have hcq := chr_le hl q
    rw [show (0 : Int32) = nI 0 from rfl, nI_eq (by omega) (by omega)]
    unfold chr
    by_cases hqT : q < T
    · rw [if_pos hqT]
      have := hl.2 q hqT
      omega
    · rw [if_neg hqT]
      omega
  have main : ∀ m n γ pp S2, n + m = 16 → n < 16 → pp ≤ T → Mf [8, 9, 11] [65, 66] S S2 → MC S2 T c pp none → S2.1 58 11 = nI n → RD S2 n γ → rgs T c W m n γ pp = prg T c W p → K20 58 (nI W) 1 (hp S2) := by
    intro m
    induction m with
    | zero =>
      intro n γ pp S2 en hn
      omega
    | succ m ih =>
      intro n γ pp S2 en hn hpp s2 t2 n2 d2 er
      apply r20
      unfold sm_X7_readGates_20
      rw [if_neg (by decide), m_v]
      have er' : (match rgt T c W pp with
        | .inl e => .inl e
        | .inr (g, p') => if T ≤ skip T c p' then .inr (n + 1, gput γ n g) else if n + 1 = 16 ∨ ¬ chr T c (skip T c p') = 44 then .inl (skip T c p') else rgs T c W m (n + 1) (gput γ n g) (skip T c p' + 1)) = prg T c W p := er
      refine m_gate t2 hl hpp hW hn n2 (fun e he S3 p' hp' s3 t3 => ?_) (fun g p' he hp' S3 s3 t3 n3 f3 q3 => ?_)
      · simp only [sr_V]
        rw [he] at er'
        rw [m_v, m_fine0 t3]
        simp only [sr_I]
        rw [if_pos (by decide)]
        unfold sm_X7_readGates_48
        rw [if_pos (by decide)]
        exact stop _ (hq0 e er'.symm S3 p' (s2.tr s3) t3)
      · simp only [sr_V]
        rw [he] at er'
        have er' : (if T ≤ skip T c p' then .inr (n + 1, gput γ n g) else if n + 1 = 16 ∨ ¬ chr T c (skip T c p') = 44 then .inl (skip T c p') else rgs T c W m (n + 1) (gput γ n g) (skip T c p' + 1)) = prg T c W p := er'
        have hs3 := skip_le (c := c) hp'
        have d3 : RD S3 (n + 1) (gput γ n g) := fun j hj => by
          by_cases hjn : j = n
          · subst hjn
            rw [show gput γ j g j = g from if_pos rfl]
            exact q3
          · rw [show gput γ n g j = γ j from if_neg hjn]
            obtain ⟨a0, a1, a2, a3, a4⟩ := d2 j (by omega)
            exact ⟨by rw [f3 _ (by omega)]; exact a0, by rw [f3 _ (by omega)]; exact a1, by rw [f3 _ (by omega)]; exact a2, by rw [f3 _ (by omega)]; exact a3, by rw [f3 _ (by omega)]; exact a4⟩
        rw [m_v, m_fine1 t3]
        simp only [sr_I]
        rw [if_neg (by decide), m_v]
        refine m_here t3 hl (by omega) (fun S4 s4 t4 => ?_)
        simp only [sr_I]
        have s24 := (s2.tr s3).tr (m9 s4 (by simp))
        have n4 : S4.1 58 11 = nI (n + 1) := by rw [s4.1 58 11 (by simp)]; exact n3
        have d4 : RD S4 (n + 1) (gput γ n g) := fun j hj => by
          have := d3 j hj
          unfold R5 at this ⊢
          rw [s4.2.1 65 (by simp)]
          exact this
        by_cases hend : T ≤ skip T c p'
        · rw [if_pos hend] at er'
          rw [if_pos ((c0 _).mpr hend)]
          unfold sm_X7_readGates_48
          rw [if_pos (by decide)]
          exact stop _ (hq1 _ _ er'.symm S4 _ s24 t4 n4 d4)
        · rw [if_neg hend] at er'
          rw [if_neg (fun z => hend ((c0 _).mp z))]
          unfold sm_X7_readGates_48
          rw [if_neg (by decide), m_v]
          refine m_here t4 hl (by omega) (fun S5 s5 t5 => ?_)
          simp only [sr_I]
          rw [skip_2] at t5
          rw [skip_2]
          have s25 := s24.tr (m9 s5 (by simp))
          have n5 : S5.1 58 11 = nI (n + 1) := by rw [s5.1 58 11 (by simp)]; exact n4
          have d5 : RD S5 (n + 1) (gput γ n g) := fun j hj => by
            have := d4 j hj
            unfold R5 at this ⊢
            rw [s5.2.1 65 (by simp)]
            exact this
          have hcq := chr_le hl (skip T c p')
          have e44 : nI (chr T c (skip T c p')) = 44 ↔ chr T c (skip T c p') = 44 := nI_eq (b := 44) (by omega) (by omega)
          by_cases h44 : chr T c (skip T c p') = 44
          · rw [if_neg (fun z => z (e44.mpr h44)), hq_I (k := 11) k58 rfl, n5]
            by_cases h16 : n + 1 = 16
            · rw [if_pos (Or.inl h16)] at er'
              rw [if_neg (fun z => z (by rw [h16]; rfl)), hq_I (k := 8) k58 rfl, t5.2.1, m_v]
              refine m_fault1 t5 (by omega) (fun S6 s6 t6 => ?_)
              simp only [sr_V]
              rw [hq_I (k := 8) k58 rfl, t6.2.1, nI_1, hq_P (k := 8) k58 rfl, m_v, m_fine0 (t6.at _)]
              simp only [sr_I]
              exact stop _ (hq0 _ er'.symm _ _ ((s25.tr (m9 s6 (by simp))).tr (Mf.I (by simp))) (t6.at _))
            · rw [if_neg (fun z => z.elim h16 (fun y => y h44))] at er'
              rw [if_pos (show ¬ nI (n + 1) = 16 from fun z => h16 ((nI_eq (b := 16) (by omega) (by omega)).mp z)), hq_I (k := 8) k58 rfl, t5.2.1, nI_1, hq_P (k := 8) k58 rfl, m_v, m_fine1 (t5.at _)]
              simp only [sr_I]
              exact ih (n + 1) _ (skip T c p' + 1) _ (by omega) (by omega) (by omega) (s25.tr (Mf.I (by simp))) (t5.at _) (by rw [sI_ne _ _ (by omega)]; exact n5) d5 er'
          · rw [if_pos (Or.inr h44)] at er'
            rw [if_pos (fun z => h44 (e44.mp z)), hq_I (k := 8) k58 rfl, t5.2.1, m_v]
            refine m_fault1 t5 (by omega) (fun S6 s6 t6 => ?_)
            simp only [sr_V]
            rw [hq_I (k := 8) k58 rfl, t6.2.1, nI_1, hq_P (k := 8) k58 rfl, m_v, m_fine0 (t6.at _)]
            simp only [sr_I]
            exact stop _ (hq0 _ er'.symm _ _ ((s25.tr (m9 s6 (by simp))).tr (Mf.I (by simp))) (t6.at _))
  rw [m_v, m_fine1 h]
  simp only [sr_I]
  rw [if_neg (by decide), m_v]
  refine m_here h hl (by omega) (fun S1 s1 t1 => ?_)
  simp only [sr_I]
  have n1 : S1.1 58 11 = nI 0 := by rw [s1.1 58 11 (by simp)]; exact h11
  have s1' := m9 s1 (by simp)
  by_cases hend : T ≤ skip T c p
  · rw [if_pos ((c0 _).mpr hend)]
    exact stop _ (hq1 0 g00 (by unfold prg; rw [if_pos hend]) S1 _ s1' t1 n1 (fun j hj => absurd hj (Nat.not_lt_zero j)))
  · rw [if_neg (fun z => hend ((c0 _).mp z))]
    exact main 16 0 g00 (skip T c p) S1 (by omega) (by omega) hs.2 s1' t1 n1 (fun j hj => absurd hj (Nat.not_lt_zero j)) (by unfold prg; rw [if_neg hend])
