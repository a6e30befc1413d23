/-! rings, order, odd -/
theorem l64_c : ∀ k, k < 64 → ((nI k).toInt64 &&& 63) = lN k := by decide +kernel
theorem l64_sm : ∀ k, k < 64 → (BitVec.ofNat 64 k).smod 64 = BitVec.ofNat 64 k := by decide +kernel
theorem l64_bit {w : Int64} {k : Nat} (hk : k < 64) : (w >>> ((nI k).toInt64 &&& 63)) &&& 1 = 0 ↔ w.toBitVec.getLsbD k = false := by
  rw [l64_c k hk, ← Int64.toBitVec_inj, Int64.toBitVec_and, Int64.toBitVec_shiftRight, show (lN k).toBitVec = BitVec.ofNat 64 k from rfl, l64_sm k hk, BitVec.sshiftRight_eq', BitVec.toNat_ofNat, Nat.mod_eq_of_lt (show k < 2 ^ 64 by omega)]
  show w.toBitVec.sshiftRight k &&& 1#64 = 0#64 ↔ _
  constructor
  · intro h
    have t := congrArg (fun x => x.getLsbD 0) h
    simp only [BitVec.getLsbD_and, BitVec.getLsbD_sshiftRight] at t
    simpa [hk] using t
  · intro h
    apply BitVec.eq_of_getLsbD_eq
    intro i hi
    rw [BitVec.getLsbD_and, BitVec.getLsbD_sshiftRight]
    cases i with
    | zero =>
      have h' : w.toBitVec[k] = false := by rw [← h, BitVec.getLsbD_eq_getElem]
      simp [hk, h, h']
    | succ i => simp
theorem l64_z {w : Int64} {k : Nat} (hk : k < 64) : lg_cmp ((w >>> ((nI k).toInt64 &&& 63)) &&& 1) 0 = 0 ↔ w.toBitVec.getLsbD k = false := (lg_cmp_eq _ _).trans (l64_bit hk)
theorem l64_set {w : Int64} {k j : Nat} (hk : k < 64) (hj : j < 64) : (w ||| ((1 : Int64) <<< ((nI k).toInt64 &&& 63))).toBitVec.getLsbD j = (w.toBitVec.getLsbD j || decide (j = k)) := by
  rw [l64_c k hk, Int64.toBitVec_or, Int64.toBitVec_shiftLeft, show (lN k).toBitVec = BitVec.ofNat 64 k from rfl, l64_sm k hk, BitVec.shiftLeft_eq', BitVec.toNat_ofNat, Nat.mod_eq_of_lt (show k < 2 ^ 64 by omega), BitVec.getLsbD_or]
  congr 1
  show (1#64 <<< k).getLsbD j = _
  rw [BitVec.getLsbD_shiftLeft]
  by_cases h1 : j = k
  · subst h1
    simp [hj]
  · by_cases h2 : j < k
    · simp [h1, h2]
    · simp [h1, h2, hj]
      omega
theorem i_countRing {S : st_S} {a b c d L : Nat} (h4 : S.1 45 4 = nI a) (h5 : S.1 45 5 = nI b) (h6 : S.1 45 6 = nI c) (h7 : S.1 45 7 = nI d) (hb : b ≤ 64) (hd : d < 2 ^ 31) (hd0 : 0 < d) (hL : L ≤ 64) (hL0 : 0 < L) {Q : aw_R} (hq : ∀ S', Sx [45] S S' → S'.1 45 4 = nI (a + 1) → S'.1 45 5 = nI (if L ≤ b then b else L) → S'.1 45 6 = nI (c + (if L = 1 then 1 else 0)) → S'.1 45 7 = nI (d / Nat.gcd d L * L) → Q none (hp S')) : tr_X1_countRing [.ref 45, .int (nI L)] (hp S) Q := by
  rw [tq_X1_countRing]
  unfold sm_X1_countRing_0
  have g0 : 0 < Nat.gcd d L := Nat.gcd_pos_of_pos_left _ hd0
  have g1 : Nat.gcd d L ≤ L := Nat.gcd_le_right _ hL0
  have emax : (if nI b < nI L then nI L else nI b) = nI (if L ≤ b then b else L) := by
    by_cases h : L ≤ b
    · rw [if_neg (nI_nlt h (by omega)), if_pos h]
    · rw [if_pos (nI_lt (by omega) (by omega)), if_neg h]
  rw [hq_I (k := 4) k45 rfl, h4, hq_P (k := 4) k45 rfl, hq_I (k := 5) k45 rfl, sI_ne _ _ (by omega), h5, hq_P (k := 5) k45 rfl, hq_I (k := 6) k45 rfl, sI_ne _ _ (by omega), sI_ne _ _ (by omega), h6, emax, nI_1]
  have fin : ∀ x : Nat, (x = if L = 1 then 1 else 0) → sm_X1_countRing_37 Q 45 (nI L) 45 (nI c) (nI x) (hp (sI (sI S 45 4 (nI (a + 1))) 45 5 (nI (if L ≤ b then b else L)))) := by
    intro x hx
    unfold sm_X1_countRing_37
    rw [hq_P (k := 6) k45 rfl, hq_I (k := 7) k45 rfl, sI_ne _ _ (by omega), sI_ne _ _ (by omega), sI_ne _ _ (by omega), h7]
    refine i_Cgcd hd (by omega) ?_
    simp only [sr_I]
    rw [if_neg (nI_nle g0 (by omega)), hq_I (k := 7) k45 rfl, sI_ne _ _ (by omega), sI_ne _ _ (by omega), sI_ne _ _ (by omega), h7]
    refine ⟨nI_ne0 g0 (by omega), ?_⟩
    rw [hq_P (k := 7) k45 rfl, pk_div hd g0 (by omega), pk_mul, nI_add, hx]
    refine hq _ ((((Sx.I (by simp)).tr (Sx.I (by simp))).tr (Sx.I (by simp))).tr (Sx.I (by simp))) ?_ ?_ ?_ ?_
    · rw [sI_ne _ _ (by omega), sI_ne _ _ (by omega), sI_ne _ _ (by omega), sI_at]
    · rw [sI_ne _ _ (by omega), sI_ne _ _ (by omega), sI_at]
    · rw [sI_ne _ _ (by omega), sI_at]
    · rw [sI_at]
  by_cases h1 : L = 1
  · rw [if_neg (fun q => q (by rw [h1]; rfl))]
    exact fin 1 (by rw [if_pos h1])
  · rw [if_pos (show ¬ nI L = 1 from fun q => h1 ((nI_eq (b := 1) (by omega) (by omega)).mp q))]
    exact fin 0 (by rw [if_neg h1])
/-- what lookAtRings has found when it stands at state s -/
def Rok (S : st_S) (B : bd) (s : Nat) : Prop := S.1 45 4 = nI (fb_ct (lst B) s) ∧ S.1 45 5 = nI (lgs B s) ∧ S.1 45 6 = nI (stl B s) ∧ S.1 45 7 = nI (alr B s)
theorem i_look {S : st_S} {B : bd} (hB : Bo S 1 B) (ok : Bok B) {Q : aw_R} (hq : ∀ S', Sx [45, 46, 47, 48] S S' → Rok S' B (2 ^ bW B) → Q none (hp S')) : tr_X1_lookAtRings [.ref 45] (hp S) Q := by
  rw [tq_X1_lookAtRings]
  intro K37 K50 r37 r50
  have hw := pw_le ok.1.2
  unfold sm_X1_lookAtRings_0
  rw [f_v]
  refine i_learn hB ok (fun S1 s1 t1 => ?_)
  simp only [sr_V]
  rw [hq_P (k := 4) k45 rfl, hq_P (k := 5) k45 rfl, hq_P (k := 6) k45 rfl, hq_P (k := 7) k45 rfl, f_0, b_v]
  have s2 : Sx [45, 46, 47, 48] S (sI (sI (sI (sI S1 45 4 0) 45 5 0) 45 6 0) 45 7 1) := (((((s1.mono (by simp)).tr (Sx.I (by simp))).tr (Sx.I (by simp))).tr (Sx.I (by simp))).tr (Sx.I (by simp)))
  have kB : ∀ {S3}, Sx [45, 46, 47, 48] S S3 → Bo S3 1 B := fun s3 => hB.kept (s3 1 (by simp)) (s3 2 (by simp))
  rw [e_Bstates k1 (kB s2) ok]
  simp only [sr_I]
  have t2 : tbl (sI (sI (sI (sI S1 45 4 0) 45 5 0) 45 6 0) 45 7 1) 46 B := t1
  have r0 : Rok (sI (sI (sI (sI S1 45 4 0) 45 5 0) 45 6 0) 45 7 1) B 0 := by
    refine ⟨?_, ?_, ?_, ?_⟩
    · rw [sI_ne _ _ (by omega), sI_ne _ _ (by omega), sI_ne _ _ (by omega), sI_at]; rfl
    · rw [sI_ne _ _ (by omega), sI_ne _ _ (by omega), sI_at]; rfl
    · rw [sI_ne _ _ (by omega), sI_at]; rfl
    · rw [sI_at]; rfl
  have inn : ∀ (m n s : Nat) (w w0 : Int64) (S3 : st_S), s < 2 ^ bW B → lst B s = true → n + m = rl B s → Sx [45, 46, 47, 48] S S3 → tbl S3 46 B → Rok S3 B s → (∀ t, t < 2 ^ bW B → (w0.toBitVec.getLsbD t = true ↔ sn B s t)) → (∀ t, t < 2 ^ bW B → (w.toBitVec.getLsbD t = true ↔ (w0.toBitVec.getLsbD t = true ∨ ∃ j, j < n ∧ itr (rn B) j s = t))) → (∀ (w' : Int64) (S4 : st_S), Sx [45, 46, 47, 48] S S4 → tbl S4 46 B → Rok S4 B (s + 1) → (∀ t, t < 2 ^ bW B → (w'.toBitVec.getLsbD t = true ↔ sn B (s + 1) t)) → K37 45 w' (nI (2 ^ bW B)) (nI (s + 1)) (hp S4)) → K50 45 w (nI (2 ^ bW B)) (nI s) (nI n) (nI (itr (rn B) n s)) (hp S3) := by
    intro m
    induction m with
    | zero =>
      intro n s w w0 S3 hs hl e s3 t3 r3 hw0 hww hk
      have hL := rl_le ok hs
      have hL0 := rl_pos (B := B) (s := s)
      have en : n = rl B s := by omega
      apply r50
      unfold sm_X1_lookAtRings_50
      have hit : itr (rn B) n s = s := by rw [en, rl_it ok hs]
      have hset : w.toBitVec.getLsbD s = true := (hww s hs).mpr (Or.inr ⟨0, by omega, rfl⟩)
      rw [hit, if_pos (fun q => by have := (l64_z (rn_64 ok hs)).mp q; rw [hset] at this; cases this), en, if_neg (nI_nle hL0 (by omega)), f_v]
      obtain ⟨q4, q5, q6, q7⟩ := r3
      refine i_countRing q4 q5 q6 q7 (lgs_64 ok (by omega)) (alr_lt ok (by omega)) (alr_pos s) hL hL0 (fun S4 s4 p4 p5 p6 p7 => ?_)
      simp only [sr_V]
      rw [nI_1]
      refine hk w S4 (s3.tr (s4.mono (by simp))) (fun t ht => by rw [(s4 46 (by simp)).2.1]; exact t3 t ht) ⟨?_, p5, ?_, p7⟩ (fun t ht => ?_)
      · rw [p4, fb_ct_succ, if_pos hl]
      · rw [p6]
        show _ = nI (stl B s + (if rn B s = s then 1 else 0))
        by_cases h1 : rl B s = 1
        · rw [if_pos h1, if_pos ((rl_1 ok hs).mp h1)]
        · rw [if_neg h1, if_neg (fun q => h1 ((rl_1 ok hs).mpr q))]
      · rw [hww t ht, sn_succ ok hs, hw0 t ht, en]
    | succ m ih =>
      intro n s w w0 S3 hs hl e s3 t3 r3 hw0 hww hk
      have hL := rl_le ok hs
      have hi := itr_lt (rn_inj ok).1 hs n
      apply r50
      unfold sm_X1_lookAtRings_50
      have hset : w.toBitVec.getLsbD (itr (rn B) n s) = false := by
        cases q : w.toBitVec.getLsbD (itr (rn B) n s)
        · rfl
        · rcases (hww _ hi).mp q with q1 | ⟨j, h1, h2⟩
          · exact absurd hl ((sn_lst ok hs).mp (sn_back ok hs (by omega) ((hw0 _ hi).mp q1)))
          · exact absurd h2 (itr_dif ok hs h1 (by omega))
      rw [if_neg (fun q => q ((l64_z (rn_64 ok hi)).mpr hset)), if_neg (show ¬ (64 : Int32) ≤ nI n from nI_ge (b := 64) (by omega) (by omega)), f_1, a_r rfl rfl (rn_64 ok hi), t3 _ hi, nI_1]
      refine ih (n + 1) s _ w0 S3 hs hl (by omega) s3 t3 r3 hw0 (fun t ht => ?_) hk
      rw [l64_set (rn_64 ok hi) (rn_64 ok ht), Bool.or_eq_true, hww t ht, decide_eq_true_iff]
      constructor
      · rintro ((h1 | ⟨j, h1, h2⟩) | h1)
        · exact Or.inl h1
        · exact Or.inr ⟨j, by omega, h2⟩
        · exact Or.inr ⟨n, by omega, h1.symm⟩
      · rintro (h1 | ⟨j, h1, h2⟩)
        · exact Or.inl (Or.inl h1)
        · by_cases hjn : j = n
          · subst hjn; exact Or.inr h2.symm
          · exact Or.inl (Or.inr ⟨j, by omega, h2⟩)
  have out : ∀ (m s : Nat) (w : Int64) (S3 : st_S), s + m = 2 ^ bW B → Sx [45, 46, 47, 48] S S3 → tbl S3 46 B → Rok S3 B s → (∀ t, t < 2 ^ bW B → (w.toBitVec.getLsbD t = true ↔ sn B s t)) → K37 45 w (nI (2 ^ bW B)) (nI s) (hp S3) := by
    intro m
    induction m with
    | zero =>
      intro s w S3 e s3 t3 r3 hww
      apply r37
      unfold sm_X1_lookAtRings_37
      rw [if_pos (nI_le (by omega) (by omega))]
      exact hq S3 s3 (by rw [show s = 2 ^ bW B by omega] at r3; exact r3)
    | succ m ih =>
      intro s w S3 e s3 t3 r3 hww
      apply r37
      unfold sm_X1_lookAtRings_37
      rw [if_neg (nI_ge (by omega) (by omega))]
      have hs : s < 2 ^ bW B := by omega
      by_cases hl : lst B s = true
      · refine inn (rl B s) 0 s w w S3 hs hl (by omega) s3 t3 r3 hww (fun t ht => ?_) (fun w' S4 s4 t4 r4 hw4 => ih (s + 1) w' S4 (by omega) s4 t4 r4 hw4)
        constructor
        · exact Or.inl
        · rintro (h1 | ⟨j, h1, _⟩)
          · exact h1
          · omega
      · apply r50
        unfold sm_X1_lookAtRings_50
        have hset : w.toBitVec.getLsbD s = true := (hww s hs).mpr ((sn_lst ok hs).mpr hl)
        rw [if_pos (fun q => by have := (l64_z (rn_64 ok hs)).mp q; rw [hset] at this; cases this), if_pos (by decide), nI_1]
        obtain ⟨q4, q5, q6, q7⟩ := r3
        obtain ⟨k1', k2', k3'⟩ := skip_lgs ok hs hl
        refine ih (s + 1) w S3 (by omega) s3 t3 ⟨?_, ?_, ?_, ?_⟩ (fun t ht => by rw [hww t ht, sn_skip ok hs hl])
        · rw [q4, fb_ct_succ, if_neg hl]; rfl
        · rw [q5, k1']
        · rw [q6, k2']
        · rw [q7, k3']
  refine out (2 ^ bW B) 0 0 _ (by omega) s2 t2 r0 (fun t ht => ?_)
  constructor
  · intro q
    exfalso
    have : (0 : Int64).toBitVec.getLsbD t = false := by
      show (0#64).getLsbD t = false
      simp
    rw [this] at q
    cases q
  · rintro ⟨u, hu, _⟩
    omega
theorem i_least {S : st_S} {B : bd} (ht : tbl S 64 B) (ok : Bok B) {s : Nat} (hs : s < 2 ^ bW B) {Q : aw_R} (hq : Q (some (.int (if lst B s then 1 else 0))) (hp S)) : tr_X7_isLeast [.ref 58, .int (nI s)] (hp S) Q := by
  rw [tq_X7_isLeast]
  intro K9 r9
  have hl := rl_le ok hs
  have main : ∀ m n (b : Bool), n + m = rl B s → 0 < n → (b = true ↔ ∀ j, j < n → 0 < j → s < itr (rn B) j s) → K9 58 (nI s) (if b then 1 else 0) (nI (itr (rn B) n s)) (hp S) := by
    intro m
    induction m with
    | zero =>
      intro n b e hn hb
      apply r9
      unfold sm_X7_isLeast_9
      rw [show n = rl B s by omega] at hb ⊢
      rw [if_pos (by rw [rl_it ok hs])]
      have : b = lst B s := by rw [Bool.eq_iff_iff, hb, lst_t]
      rw [this]
      refine ⟨by cases lst B s <;> simp, hq⟩
    | succ m ih =>
      intro n b e hn hb
      apply r9
      unfold sm_X7_isLeast_9
      have hi := itr_lt (rn_inj ok).1 hs n
      have h64 := rn_64 ok hs
      have i64 := rn_64 ok hi
      have hne := rl_min (B := B) (s := s) hn (by omega)
      rw [if_neg (fun q => hne ((nI_eq (by omega) (by omega)).mp q))]
      cases b
      · rw [if_pos (by decide), m_7, t_r i64, ht _ hi]
        refine ih (n + 1) false (by omega) (by omega) ⟨fun q => (by cases q), fun q => ?_⟩
        have := hb.mpr (fun j h1 h2 => q j (by omega) h2)
        cases this
      · rw [if_neg (by decide)]
        by_cases hc : itr (rn B) n s ≤ s
        · rw [if_pos (nI_le hc (by omega)), m_7, t_r i64, ht _ hi]
          refine ih (n + 1) false (by omega) (by omega) ⟨fun q => (by cases q), fun q => ?_⟩
          have := q n (by omega) hn
          omega
        · rw [if_neg (nI_ge (by omega) (by omega)), m_7, t_r i64, ht _ hi]
          refine ih (n + 1) true (by omega) (by omega) ⟨fun _ j h1 h2 => ?_, fun _ => rfl⟩
          by_cases hjn : j = n
          · subst hjn; omega
          · exact hb.mp rfl j (by omega) h2
  unfold sm_X7_isLeast_0
  rw [m_7, t_r (rn_64 ok hs), ht _ hs]
  exact main (rl B s - 1) 1 true (by have := rl_pos (B := B) (s := s); omega) (by omega) ⟨fun _ j h1 h2 => by omega, fun _ => rfl⟩
theorem i_ringMany {S : st_S} {B : bd} (hB : Br S 0 B) (ht : tbl S 64 B) (ok : Bok B) {Q : aw_R} (hq : Q (some (.int (nI (fb_ct (lst B) (2 ^ bW B))))) (hp S)) : tr_X7_ringMany [.ref 58] (hp S) Q := by
  rw [tq_X7_ringMany]
  intro K4 r4
  have hw := pw_le ok.1.2
  have main : ∀ m s, s + m = 2 ^ bW B → K4 58 (nI (fb_ct (lst B) s)) (nI s) (hp S) := by
    intro m
    induction m with
    | zero =>
      intro s e
      apply r4
      unfold sm_X7_ringMany_4
      rw [m_v, e_Mstates hB ok]
      simp only [sr_I]
      rw [if_pos (nI_le (by omega) (by omega)), show s = 2 ^ bW B by omega]
      exact hq
    | succ m ih =>
      intro s e
      apply r4
      unfold sm_X7_ringMany_4
      rw [m_v, e_Mstates hB ok]
      simp only [sr_I]
      rw [if_neg (nI_ge (by omega) (by omega)), m_v]
      refine i_least ht ok (by omega) ?_
      simp only [sr_I]
      have ih' := ih (s + 1) (by omega)
      rw [fb_ct_succ, ← nI_add] at ih'
      rw [nI_1]
      cases hl : lst B s
      · rw [hl] at ih'
        rw [if_pos (by decide)]
        exact ih'
      · rw [hl] at ih'
        rw [if_neg (by decide)]
        exact ih'
  exact main (2 ^ bW B) 0 (by omega)
theorem op_order {σ : sg} (wf : Wf σ) : Op tr_X6_order tr_X7_order σ [] := by
  have ok := wf.1
  have hw := pw_le ok.1.2
  refine ⟨nI (alr σ.1 (2 ^ bW σ.1)), σ, fun S Q h hq => ?_, fun S Q h hq => ?_⟩
  · rw [tq_X6_order]; unfold sm_X6_order_0
    rw [c_7, f_v]
    refine i_look h.1.2 h.1.1 (fun S1 s1 r1 => ?_)
    simp only [sr_V]
    rw [c_7, hq_I (k := 7) k45 rfl, r1.2.2.2]
    exact hq S1 (fo_fc s1) (h.fo s1)
  · rw [tq_X7_order]
    intro K8 r8
    unfold sm_X7_order_0
    rw [m_v]
    refine i_layRuns h wf (fun S1 f1 h1 t1 _ _ => ?_)
    simp only [sr_V]
    have main : ∀ m s, s + m = 2 ^ bW σ.1 → K8 58 (nI (alr σ.1 s)) (nI s) (hp S1) := by
      intro m
      induction m with
      | zero =>
        intro s e
        apply r8
        unfold sm_X7_order_8
        rw [m_v, e_Mstates h1.1 ok]
        simp only [sr_I]
        rw [if_pos (nI_le (by omega) (by omega)), show s = 2 ^ bW σ.1 by omega]
        exact hq S1 f1 h1
      | succ m ih =>
        intro s e
        apply r8
        unfold sm_X7_order_8
        rw [m_v, e_Mstates h1.1 ok]
        simp only [sr_I]
        have hs : s < 2 ^ bW σ.1 := by omega
        have hL := rl_le ok hs
        have hL0 := rl_pos (B := σ.1) (s := s)
        have ha := alr_lt ok (show s ≤ 2 ^ bW σ.1 by omega)
        have ha0 := alr_pos (B := σ.1) s
        have g0 : 0 < Nat.gcd (alr σ.1 s) (rl σ.1 s) := Nat.gcd_pos_of_pos_left _ ha0
        have g1 : Nat.gcd (alr σ.1 s) (rl σ.1 s) ≤ rl σ.1 s := Nat.gcd_le_right _ hL0
        rw [if_neg (nI_ge (by omega) (by omega)), m_v]
        refine i_Mrl t1 ok hs ?_
        simp only [sr_I]
        refine i_Mgcd ha (by omega) ?_
        simp only [sr_I]
        refine ⟨nI_ne0 g0 (by omega), ?_⟩
        rw [pk_div ha g0 (by omega), pk_mul, nI_1]
        exact ih (s + 1) (by omega)
    exact main (2 ^ bW σ.1) 0 (by omega)
theorem op_odd {σ : sg} (wf : Wf σ) : Op tr_X6_odd tr_X7_odd σ [] := by
  have ok := wf.1
  have hw := pw_le ok.1.2
  have hc := fb_ct_le (lst σ.1) (2 ^ bW σ.1)
  refine ⟨nI ((2 ^ bW σ.1 - fb_ct (lst σ.1) (2 ^ bW σ.1)) % 2), σ, fun S Q h hq => ?_, fun S Q h hq => ?_⟩
  · rw [tq_X6_odd]; unfold sm_X6_odd_0
    rw [c_7, f_v]
    refine i_look h.1.2 h.1.1 (fun S1 s1 r1 => ?_)
    simp only [sr_V]
    have h1 := h.fo s1
    rw [c_0, b_v, e_Bstates k1 h1.1.2 h1.1.1]
    simp only [sr_I]
    rw [c_7, hq_I (k := 4) k45 rfl, r1.1, pk_sub hc, show (1 : Int32) = nI (2 ^ 1 - 1) from rfl, fa_mask]
    exact hq S1 (fo_fc s1) h1
  · rw [tq_X7_odd]; unfold sm_X7_odd_0
    rw [m_v]
    refine i_layRuns h wf (fun S1 f1 h1 t1 _ _ => ?_)
    simp only [sr_V]
    rw [m_v, e_Mstates h1.1 ok]
    simp only [sr_I]
    rw [m_v]
    refine i_ringMany h1.1 t1 ok ?_
    simp only [sr_I]
    refine ⟨by decide, ?_⟩
    rw [pk_sub hc, show (2 : Int32) = nI 2 from rfl, pk_rem (by omega) (by omega) (by omega)]
    exact hq S1 f1 h1
theorem in02 (x : Int32) : (x = 0 ∧ inb x 0 2 = 1) ∨ (x = 1 ∧ inb x 0 2 = 1) ∨ (x = 2 ∧ inb x 0 2 = 1) ∨ (inb x 0 2 = 0 ∧ (x < 0 ∨ ¬ x ≤ 2)) := by
  rcases inb_0m x 2 with ⟨h, e⟩ | ⟨h, h2, e⟩ | ⟨k, hk, rfl, h, h2, e⟩
  · exact Or.inr (Or.inr (Or.inr ⟨e, Or.inl h⟩))
  · exact Or.inr (Or.inr (Or.inr ⟨e, Or.inr h2⟩))
  · have : k ≤ 2 := (nI_leI hk (by omega)).mp (show nI k ≤ nI 2 from h2)
    rcases (show k = 0 ∨ k = 1 ∨ k = 2 by omega) with rfl | rfl | rfl
    · exact Or.inl ⟨rfl, e⟩
    · exact Or.inr (Or.inl ⟨rfl, e⟩)
    · exact Or.inr (Or.inr (Or.inl ⟨rfl, e⟩))
theorem op_rings {σ : sg} (wf : Wf σ) (x : Int32) : Op tr_X6_rings tr_X7_rings σ [.int x] := by
  have ok := wf.1
  have hw := pw_le ok.1.2
  have mdl : ∀ S Q, MI S σ → inb x 0 2 = 1 → (∀ S', Fm S S' → MI S' σ → (if ¬ x = 0 then (if ¬ x = 1 then Q (some (.int (nI (stl σ.1 (2 ^ bW σ.1))))) (hp S') else Q (some (.int (nI (lgs σ.1 (2 ^ bW σ.1))))) (hp S')) else Q (some (.int (nI (fb_ct (lst σ.1) (2 ^ bW σ.1))))) (hp S'))) → tr_X7_rings [.ref 58, .int x] (hp S) Q := by
    intro S Q h e hq
    rw [tq_X7_rings]
    intro K22 r22
    unfold sm_X7_rings_0
    rw [e_in, e]
    simp only [sr_I]
    rw [if_pos (by decide), m_v]
    refine i_layRuns h wf (fun S1 f1 h1 t1 _ _ => ?_)
    simp only [sr_V]
    have main : ∀ m s, s + m = 2 ^ bW σ.1 → K22 58 x (nI (lgs σ.1 s)) (nI (stl σ.1 s)) (nI s) (hp S1) := by
      intro m
      induction m with
      | zero =>
        intro s e
        apply r22
        unfold sm_X7_rings_22
        rw [m_v, e_Mstates h1.1 ok]
        simp only [sr_I]
        have := hq S1 f1 h1
        rw [if_pos (nI_le (by omega) (by omega)), show s = 2 ^ bW σ.1 by omega]
        by_cases h0 : x = 0
        · rw [if_neg (fun q => q h0)] at this ⊢
          rw [m_v]
          refine i_ringMany h1.1 t1 ok ?_
          simp only [sr_I]
          exact this
        · rw [if_pos h0] at this ⊢
          exact this
      | succ m ih =>
        intro s e
        apply r22
        unfold sm_X7_rings_22
        rw [m_v, e_Mstates h1.1 ok]
        simp only [sr_I]
        have hs : s < 2 ^ bW σ.1 := by omega
        have hL := rl_le ok hs
        have hg := lgs_64 ok (show s ≤ 2 ^ bW σ.1 by omega)
        have h64 := rn_64 ok hs
        have r64 := rn_64 ok (rn_w ok hs)
        rw [if_neg (nI_ge (by omega) (by omega)), m_v]
        refine i_Mrl t1 ok hs ?_
        simp only [sr_I]
        have ih' := ih (s + 1) (by omega)
        have fin : ∀ X, X = nI (lgs σ.1 (s + 1)) → sm_X7_rings_51 K22 Q 58 x (nI (stl σ.1 s)) (nI s) X (hp S1) := by
          intro X hX
          unfold sm_X7_rings_51
          rw [m_7, t_r h64, t1 s hs, hX, nI_1]
          have e2 : stl σ.1 (s + 1) = stl σ.1 s + (if rn σ.1 s = s then 1 else 0) := rfl
          rw [e2, ← nI_add] at ih'
          by_cases hc : rn σ.1 s = s
          · rw [if_pos hc] at ih'
            rw [if_neg (fun q => q (by rw [hc]))]
            exact ih'
          · rw [if_neg hc] at ih'
            rw [if_pos (fun q => hc ((nI_eq (by omega) (by omega)).mp q))]
            exact ih'
        have e1 : lgs σ.1 (s + 1) = if rl σ.1 s ≤ lgs σ.1 s then lgs σ.1 s else rl σ.1 s := rfl
        by_cases hc : rl σ.1 s ≤ lgs σ.1 s
        · rw [if_pos (nI_le hc (by omega))]
          exact fin _ (by rw [e1, if_pos hc])
        · rw [if_neg (nI_ge (by omega) (by omega)), m_v]
          refine i_Mrl t1 ok hs ?_
          simp only [sr_I]
          exact fin _ (by rw [e1, if_neg hc])
    exact main (2 ^ bW σ.1) 0 (by omega)
  rcases in02 x with ⟨rfl, e⟩ | ⟨rfl, e⟩ | ⟨rfl, e⟩ | ⟨e, hx⟩
  · refine ⟨nI (fb_ct (lst σ.1) (2 ^ bW σ.1)), σ, fun S Q h hq => ?_, fun S Q h hq => mdl S Q h e (fun S' f' h' => ?_)⟩
    · rw [tq_X6_rings]; unfold sm_X6_rings_0
      rw [if_neg (by decide), if_pos (by decide), c_7, f_v]
      refine i_look h.1.2 h.1.1 (fun S1 s1 r1 => ?_)
      simp only [sr_V]
      rw [if_neg (by decide), c_7, hq_I (k := 4) k45 rfl, r1.1]
      exact hq S1 (fo_fc s1) (h.fo s1)
    · rw [if_neg (by decide)]
      exact hq S' f' h'
  · refine ⟨nI (lgs σ.1 (2 ^ bW σ.1)), σ, fun S Q h hq => ?_, fun S Q h hq => mdl S Q h e (fun S' f' h' => ?_)⟩
    · rw [tq_X6_rings]; unfold sm_X6_rings_0
      rw [if_neg (by decide), if_pos (by decide), c_7, f_v]
      refine i_look h.1.2 h.1.1 (fun S1 s1 r1 => ?_)
      simp only [sr_V]
      rw [if_pos (by decide), if_neg (by decide), c_7, hq_I (k := 5) k45 rfl, r1.2.1]
      exact hq S1 (fo_fc s1) (h.fo s1)
    · rw [if_pos (by decide), if_neg (by decide)]
      exact hq S' f' h'
  · refine ⟨nI (stl σ.1 (2 ^ bW σ.1)), σ, fun S Q h hq => ?_, fun S Q h hq => mdl S Q h e (fun S' f' h' => ?_)⟩
    · rw [tq_X6_rings]; unfold sm_X6_rings_0
      rw [if_neg (by decide), if_pos (by decide), c_7, f_v]
      refine i_look h.1.2 h.1.1 (fun S1 s1 r1 => ?_)
      simp only [sr_V]
      rw [if_pos (by decide), if_pos (by decide), c_7, hq_I (k := 6) k45 rfl, r1.2.2.1]
      exact hq S1 (fo_fc s1) (h.fo s1)
    · rw [if_pos (by decide), if_pos (by decide)]
      exact hq S' f' h'
  · refine Op.same (-1) (fun S Q h hq => ?_) (fun S Q h hq => ?_)
    · rw [tq_X6_rings]; unfold sm_X6_rings_0
      rcases hx with q | q
      · rw [if_pos q]; exact hq
      · rw [if_neg q]; split <;> exact hq
    · rw [tq_X7_rings]; intro K r; unfold sm_X7_rings_0
      rw [e_in, e]
      simp only [sr_I]
      rw [if_neg (by decide)]
      exact hq
