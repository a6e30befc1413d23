/-! came: behind how many runs; the call -/
theorem i_runsC {S : st_S} {B : bd} (hB : Bo S 1 B) (ok : Bok B) {k la sz : Nat} {f : Nat → Int64} (hk : k < 4) (ho : Ho S k (some (la, sz, f))) {a s n : Nat} (han : a + n ≤ sz) (hsn : s + n ≤ 2 ^ bW B) {Q : aw_R} (hq : ∀ S', Sx [46, 47] S S' → Q (some (.int (upa (ups B f a s n) 200 1))) (hp S')) : tr_X1_runsBy [.ref 45, .ref (50 + 2 * k), .int (nI a), .int (nI s), .int (nI n)] (hp S) Q := by
  rw [tq_X1_runsBy]
  intro K7 K34 K48 r7 r34 r48
  have hw := pw_le ok.1.2
  have hz : sz ≤ 24 := ho.2.1
  unfold sm_X1_runsBy_0
  rw [f_v]
  refine i_learn hB ok (fun S1 s1 t1 => ?_)
  simp only [sr_V]
  have it : ∀ r t, t < n → itr (rn B) r (s + t) < 2 ^ bW B := fun r t ht => itr_lt (rn_inj ok).1 (by omega) r
  have kb : ∀ {S2}, Sx [46, 47] S S2 → Ho S2 k (some (la, sz, f)) := fun s2 => ho.kept (s2 _ (by simp; omega)) (s2 _ (by simp; omega))
  have inn : ∀ m t r (b : Bool) S2, t + m = n → Sx [46, 47] S S2 → tbl S2 46 B → (∀ u, u < n → S2.2.1 47 u = nI (itr (rn B) (if u < t then r + 1 else r) (s + u))) → (b = true ↔ ∀ u, u < t → f (a + u) = Int32.toInt64 (nI (itr (rn B) (r + 1) (s + u)))) → (ups B f a s n (r + 1) = false → ∀ S3, Sx [46, 47] S S3 → tbl S3 46 B → (∀ u, u < n → S3.2.1 47 u = nI (itr (rn B) (r + 1) (s + u))) → K34 45 (50 + 2 * k) (nI a) (nI n) (nI (r + 1 + 1)) (hp S3)) → (ups B f a s n (r + 1) = true → ∀ S3, Sx [46, 47] S S3 → Q (some (.int (nI (r + 1)))) (hp S3)) → K48 45 (50 + 2 * k) (nI a) (nI n) (nI (r + 1)) (if b then 1 else 0) (nI t) (hp S2) := by
    intro m
    induction m with
    | zero =>
      intro t r b S2 e s2 t2 w2 hb hk0 hk1
      apply r48
      unfold sm_X1_runsBy_48
      rw [if_pos (nI_le (by omega) (by omega))]
      have hbu : b = ups B f a s n (r + 1) := by
        rw [Bool.eq_iff_iff, hb]
        unfold ups
        rw [tlb_t]
        constructor
        · intro q u hu; exact q u (by omega)
        · intro q u hu; exact q u (by omega)
      cases hbb : b
      · rw [if_pos (by decide), nI_1]
        exact hk0 (by rw [← hbu, hbb]) S2 s2 t2 (fun u hu => by rw [w2 u hu, if_pos (by omega)])
      · rw [if_neg (by decide)]
        exact hk1 (by rw [← hbu, hbb]) S2 s2
    | succ m ih =>
      intro t r b S2 e s2 t2 w2 hb hk0 hk1
      apply r48
      unfold sm_X1_runsBy_48
      have i0 := it r t (by omega)
      have i64 := rn_64 ok i0
      rw [if_neg (nI_ge (by omega) (by omega)), f_2, f_1, f_2, a_r rfl rfl (show t < 64 by omega), w2 t (by omega), if_neg (by omega), a_r rfl rfl i64, t2 _ i0, a_s rfl rfl (show t < 64 by omega), sA_F]
      have s3 : Sx [46, 47] S (sF S2 47 (upd (S2.2.1 47) t (nI (rn B (itr (rn B) r (s + t)))))) := s2.tr (Sx.F (by simp))
      have t3 : tbl (sF S2 47 (upd (S2.2.1 47) t (nI (rn B (itr (rn B) r (s + t)))))) 46 B := fun u hu => by rw [sF_ne _ _ (by omega)]; exact t2 u hu
      have w3 : ∀ u, u < n → (sF S2 47 (upd (S2.2.1 47) t (nI (rn B (itr (rn B) r (s + t)))))).2.1 47 u = nI (itr (rn B) (if u < t + 1 then r + 1 else r) (s + u)) := fun u hu => by
        rw [sF_at]
        by_cases hut : u = t
        · rw [hut, pk_us, if_pos (by omega)]
          rfl
        · rw [pk_un hut, w2 u hu]
          by_cases h2 : u < t
          · rw [if_pos h2, if_pos (by omega)]
          · rw [if_neg h2, if_neg (by omega)]
      have w3t : (sF S2 47 (upd (S2.2.1 47) t (nI (rn B (itr (rn B) r (s + t)))))).2.1 47 t = nI (itr (rn B) (r + 1) (s + t)) := by rw [w3 t (by omega), if_pos (by omega)]
      generalize sF S2 47 (upd (S2.2.1 47) t (nI (rn B (itr (rn B) r (s + t))))) = S3 at *
      cases hbb : b
      · rw [if_pos (by decide), nI_1]
        refine ih (t + 1) r false S3 (by omega) s3 t3 w3 ⟨fun q => (by cases q), fun q => ?_⟩ hk0 hk1
        have := hb.mpr (fun u hu => q u (by omega))
        rw [hbb] at this
        exact this
      · rw [if_neg (by decide), s_3 hk, nI_add, s_l hk (by omega), (kb s3).2.2.2.2.2 _ (by omega), f_2, a_r rfl rfl (show t < 64 by omega), w3t, nI_1]
        have hall := hb.mp hbb
        by_cases hc : f (a + t) = Int32.toInt64 (nI (itr (rn B) (r + 1) (s + t)))
        · rw [if_neg (fun q => q ((lg_cmp_eq _ _).mpr hc))]
          refine ih (t + 1) r true S3 (by omega) s3 t3 w3 ⟨fun _ u hu => ?_, fun _ => rfl⟩ hk0 hk1
          by_cases hut : u = t
          · rw [hut]; exact hc
          · exact hall u (by omega)
        · rw [if_pos (fun q => hc ((lg_cmp_eq _ _).mp q))]
          refine ih (t + 1) r false S3 (by omega) s3 t3 w3 ⟨fun q => (by cases q), fun q => ?_⟩ hk0 hk1
          exact absurd (q t (by omega)) hc
  have out : ∀ m r S2, r + m = 200 → Sx [46, 47] S S2 → tbl S2 46 B → (∀ u, u < n → S2.2.1 47 u = nI (itr (rn B) r (s + u))) → (∀ S3, Sx [46, 47] S S3 → Q (some (.int (upa (ups B f a s n) m (r + 1)))) (hp S3)) → K34 45 (50 + 2 * k) (nI a) (nI n) (nI (r + 1)) (hp S2) := by
    intro m
    induction m with
    | zero =>
      intro r S2 e s2 t2 w2 hq'
      apply r34
      unfold sm_X1_runsBy_34
      rw [if_pos (show (200 : Int32) < nI (r + 1) from nI_lt (a := 200) (by omega) (by omega))]
      exact hq' S2 s2
    | succ m ih =>
      intro r S2 e s2 t2 w2 hq'
      apply r34
      unfold sm_X1_runsBy_34
      rw [if_neg (show ¬ (200 : Int32) < nI (r + 1) from nI_nlt (b := r + 1) (a := 200) (by omega) (by omega))]
      have e1 : upa (ups B f a s n) (m + 1) (r + 1) = if ups B f a s n (r + 1) then nI (r + 1) else upa (ups B f a s n) m (r + 1 + 1) := rfl
      refine inn n 0 r true S2 (by omega) s2 t2 (fun u hu => by rw [w2 u hu, if_neg (Nat.not_lt_zero u)]) ⟨fun _ u hu => absurd hu (Nat.not_lt_zero u), fun _ => rfl⟩ (fun q S3 s3 t3 w3 => ?_) (fun q S3 s3 => ?_)
      · refine ih (r + 1) S3 (by omega) s3 t3 w3 (fun S4 s4 => ?_)
        have := hq' S4 s4
        rw [e1, q] at this
        exact this
      · have := hq' S3 s3
        rw [e1, q, if_pos rfl] at this
        exact this
  have fil : ∀ m t S2, t + m = n → Sx [46, 47] S S2 → tbl S2 46 B → (∀ u, u < t → S2.2.1 47 u = nI (s + u)) → K7 45 (50 + 2 * k) (nI a) (nI s) (nI n) (nI t) (hp S2) := by
    intro m
    induction m with
    | zero =>
      intro t S2 e s2 t2 w2
      apply r7
      unfold sm_X1_runsBy_7
      rw [if_pos (nI_le (by omega) (by omega))]
      exact out 200 0 S2 (by omega) s2 t2 (fun u hu => w2 u (by omega)) hq
    | succ m ih =>
      intro t S2 e s2 t2 w2
      apply r7
      unfold sm_X1_runsBy_7
      rw [if_neg (nI_ge (by omega) (by omega)), f_2, nI_add, a_s rfl rfl (show t < 64 by omega), sA_F, nI_1]
      refine ih (t + 1) _ (by omega) (s2.tr (Sx.F (by simp))) (fun u hu => by rw [sF_ne _ _ (by omega)]; exact t2 u hu) (fun u hu => ?_)
      rw [sF_at]
      by_cases hut : u = t
      · rw [hut, pk_us]
      · rw [pk_un hut]
        exact w2 u (by omega)
  exact fil n 0 S1 (by omega) (s1.mono (by simp)) t1 (fun u hu => absurd hu (Nat.not_lt_zero u))
theorem i_upsM {S : st_S} {σ : sg} (hm : MI S σ) (wf : Wf σ) {k la sz : Nat} {f : Nat → Int64} (hk : k < 4) (ho : Hm S k (some (la, sz, f))) (hz : sz ≤ 24) {a s n : Nat} (han : a + n ≤ sz) (hsn : s + n ≤ 2 ^ bW σ.1) {Q : aw_R} (hq : ∀ S', Fm S S' → MI S' σ → Q (some (.int (upa (ups σ.1 f a s n) 200 1))) (hp S')) : tr_X7_ups [.ref 58, .int (nI s), .int (nI k), .int (nI a), .int (nI n)] (hp S) Q := by
  rw [tq_X7_ups]
  intro K7 K21 K42 r7 r21 r42
  have ok := wf.1
  have hw := pw_le ok.1.2
  unfold sm_X7_ups_0
  rw [m_v]
  refine i_layRuns hm wf (fun S1 f1 h1 t1 e59 el => ?_)
  simp only [sr_V]
  have hit : ∀ t, t < sz → S1.2.2 61 (24 * k + t) = f t := fun t ht => by rw [el]; exact ho.2.2 t ht
  have it : ∀ r t, t < n → itr (rn σ.1) r (s + t) < 2 ^ bW σ.1 := fun r t ht => itr_lt (rn_inj ok).1 (by omega) r
  have fin := hq S1 f1 h1
  have walk : ∀ m q t r, t < n → q + m = r → r ≤ 200 → (f (a + t) = Int32.toInt64 (nI (itr (rn σ.1) r (s + t))) → K21 58 (nI s) (nI k) (nI a) (nI n) (nI r) 1 (nI (t + 1)) (hp S1)) → (¬ f (a + t) = Int32.toInt64 (nI (itr (rn σ.1) r (s + t))) → K21 58 (nI s) (nI k) (nI a) (nI n) (nI r) 0 (nI (t + 1)) (hp S1)) → K42 58 (nI s) (nI k) (nI a) (nI n) (nI r) (nI t) (nI (itr (rn σ.1) q (s + t))) (nI q) (hp S1) := by
    intro m
    induction m with
    | zero =>
      intro q t r ht e hr h1' h0'
      apply r42
      unfold sm_X7_ups_42
      rw [if_pos (nI_le (by omega) (by omega)), m_4, nI_d, nI_add, m_lr (by omega), show 24 * k + a + t = 24 * k + (a + t) by omega, hit _ (by omega), show q = r by omega, nI_1]
      by_cases hc : f (a + t) = Int32.toInt64 (nI (itr (rn σ.1) r (s + t)))
      · rw [if_neg (fun z => z ((lg_cmp_eq _ _).mpr hc.symm))]
        exact h1' hc
      · rw [if_pos (fun z => hc ((lg_cmp_eq _ _).mp z).symm)]
        exact h0' hc
    | succ m ih =>
      intro q t r ht e hr h1' h0'
      apply r42
      unfold sm_X7_ups_42
      have i0 := it q t ht
      rw [if_neg (nI_ge (by omega) (by omega)), m_7, t_r (rn_64 ok i0), t1 _ i0, nI_1]
      exact ih (q + 1) t r ht (by omega) hr h1' h0'
  have inn : ∀ m t r, t + m = n → r ≤ 200 → (∀ u, u < t → f (a + u) = Int32.toInt64 (nI (itr (rn σ.1) r (s + u)))) → (ups σ.1 f a s n r = false → K7 58 (nI s) (nI k) (nI a) (nI n) (nI (r + 1)) (hp S1)) → (ups σ.1 f a s n r = true → Q (some (.int (nI r))) (hp S1)) → K21 58 (nI s) (nI k) (nI a) (nI n) (nI r) 1 (nI t) (hp S1) := by
    intro m
    induction m with
    | zero =>
      intro t r e hr ht hk0 hk1
      apply r21
      unfold sm_X7_ups_21
      rw [if_pos (nI_le (by omega) (by omega)), if_neg (by decide)]
      exact hk1 (tlb_t.mpr (fun u hu => ht u (by omega)))
    | succ m ih =>
      intro t r e hr ht hk0 hk1
      apply r21
      unfold sm_X7_ups_21
      rw [if_neg (nI_ge (by omega) (by omega)), if_neg (by decide), nI_add]
      refine walk r 0 t r (by omega) (by omega) hr (fun hc => ?_) (fun hc => ?_)
      · exact ih (t + 1) r (by omega) hr (fun u hu => by
          by_cases hut : u = t
          · rw [hut]; exact hc
          · exact ht u (by omega)) hk0 hk1
      · have hu : ups σ.1 f a s n r = false := tlb_f t (by omega) hc
        apply r21
        unfold sm_X7_ups_21
        rw [nI_1]
        split
        · rw [if_pos rfl]
          exact hk0 hu
        · rw [if_pos rfl, if_pos rfl]
          exact hk0 hu
  have out : ∀ m r, r + m = 200 → Q (some (.int (upa (ups σ.1 f a s n) m (r + 1)))) (hp S1) → K7 58 (nI s) (nI k) (nI a) (nI n) (nI (r + 1)) (hp S1) := by
    intro m
    induction m with
    | zero =>
      intro r e hq'
      apply r7
      unfold sm_X7_ups_7
      rw [if_pos (show (200 : Int32) < nI (r + 1) from nI_lt (a := 200) (by omega) (by omega))]
      exact hq'
    | succ m ih =>
      intro r e hq'
      apply r7
      unfold sm_X7_ups_7
      rw [if_neg (show ¬ (200 : Int32) < nI (r + 1) from nI_nlt (b := r + 1) (a := 200) (by omega) (by omega))]
      have e1 : upa (ups σ.1 f a s n) (m + 1) (r + 1) = if ups σ.1 f a s n (r + 1) then nI (r + 1) else upa (ups σ.1 f a s n) m (r + 1 + 1) := rfl
      refine inn n 0 (r + 1) (by omega) (by omega) (fun u hu => absurd hu (Nat.not_lt_zero u)) (fun q => ?_) (fun q => ?_)
      · rw [e1, q] at hq'
        exact ih (r + 1) (by omega) hq'
      · rw [e1, q, if_pos rfl] at hq'
        exact hq'
  exact out 200 0 (by omega) fin
theorem in_came {N : Nat} (hN : N ≤ 16) (x : Int32) : ((x < -2 ∨ (¬ x < -2 ∧ nI N ≤ x)) ∧ inb x (-2) (nI N - 1) = 0) ∨ (¬ x < -2 ∧ ¬ nI N ≤ x ∧ inb x (-2) (nI N - 1) = 1 ∧ (x = -1 ∨ x = -2 ∨ ∃ g, g < N ∧ x = nI g)) := by
  have e : (nI N - 1).toInt = (N : Int) - 1 := by
    rw [fb_subI]
    · rw [nI_toInt (by omega)]; rfl
    · rw [nI_toInt (by omega)]; show _ ≤ (N : Int) - 1; omega
    · rw [nI_toInt (by omega)]; show (N : Int) - 1 < _; omega
  have m1 : ((-1 : Int32)).toInt = -1 := by decide
  have m2 : ((-2 : Int32)).toInt = -2 := by decide
  unfold inb
  by_cases h1 : x < -2
  · rw [if_pos h1]
    exact Or.inl ⟨Or.inl h1, rfl⟩
  · rw [if_neg h1]
    have h1' : ¬ x.toInt < -2 := fun q => h1 (Int32.lt_iff_toInt_lt.mpr (by rw [m2]; exact q))
    by_cases h2 : nI N - 1 < x
    · rw [if_pos h2]
      refine Or.inl ⟨Or.inr ⟨h1, ?_⟩, rfl⟩
      have h2 := Int32.lt_iff_toInt_lt.mp h2
      rw [e] at h2
      exact Int32.le_iff_toInt_le.mpr (by rw [nI_toInt (by omega)]; omega)
    · rw [if_neg h2]
      have h2' : ¬ (N : Int) - 1 < x.toInt := fun q => h2 (Int32.lt_iff_toInt_lt.mpr (by rw [e]; exact q))
      refine Or.inr ⟨h1, fun q => ?_, rfl, ?_⟩
      · have q := Int32.le_iff_toInt_le.mp q
        rw [nI_toInt (by omega)] at q
        omega
      · by_cases h3 : x.toInt = -1
        · exact Or.inl (Int32.toInt_inj.mp (by rw [m1]; exact h3))
        · by_cases h4 : x.toInt = -2
          · exact Or.inr (Or.inl (Int32.toInt_inj.mp (by rw [m2]; exact h4)))
          · refine Or.inr (Or.inr ⟨x.toInt.toNat, by omega, Int32.toInt_inj.mp ?_⟩)
            rw [nI_toInt (by omega)]
            omega
theorem op_came {σ : sg} (wf : Wf σ) (x1 x2 x3 x4 x5 x6 : Int32) : Op tr_X6_came tr_X7_came σ [.int x1, .int x2, .int x3, .int x4, .int x5, .int x6] := by
  have wz := wf.2.2.2.2.2
  have ok := wf.1
  have hn := ok.2.1
  have hw := pw_le ok.1.2
  rcases in_came hn x1 with ⟨hx, eg⟩ | ⟨hx1, hx2, eg, hg⟩
  · refine Op.same (-1) (fun S Q h hq => ?_) (fun S Q h hq => ?_)
    · rw [tq_X6_came]; unfold sm_X6_came_0
      rcases hx with q | ⟨q, q2⟩
      · rw [if_pos q]; exact hq
      · rw [if_neg q, c_0, hq_I (k := 1) k1 rfl, h.1.2.2.1, if_pos q2]
        exact hq
    · rw [tq_X7_came]; unfold sm_X7_came_0
      rw [m_0, show (sa_I (hp S) 59 1 _) = _ from m_wn (n := 1) (by omega), show S.2.1 59 1 = nI (bN σ.1) from h.1.2.1, e_in, eg]
      simp only [sr_I]
      rw [if_pos (by decide)]
      exact hq
  · rcases ars_c hw (show 8 ≤ 24 by omega) x2 x6 with ⟨s, n, rfl, rfl, n1, n2, hsn, ea, ei, en, ex⟩ | ⟨ea, hbad⟩
    · have ea : ars (2 ^ bW σ.1) 8 (nI s) (nI n) = 1 := ea
      have en : inb (nI n) 1 8 = 1 := en
      have cls : ∀ S Q, CI S σ → (if (if inb x3 0 3 = 0 then (0 : Int32) else inb x4 0 3) = 0 then Q (some (.int (-1))) (hp S) else (sa_R (hp S) 4 49 x3 fun q10 => sv_O (hp S) q10 3 (tr_X4_faultOf [.ref q10, .int x4, .int x5, .int (nI n)] (hp S) fun r12 h11 => sr_I r12 fun v13 => if v13 = 0 then (if ¬ x1 = ((-1)) then (if ¬ x1 = ((-2)) then (sg_R h11 0 5 0 fun q14 => sv_O h11 q14 1 (tr_X1_kindsBy [.ref q14, .ref q10, .int x5, .int (nI s), .int (nI n), .int x1] h11 fun r16 h15 => sr_I r16 fun v17 => Q (some (.int v17)) h15)) else (sg_R h11 0 5 0 fun q18 => sv_O h11 q18 1 (tr_X1_runsBy [.ref q18, .ref q10, .int x5, .int (nI s), .int (nI n)] h11 fun r20 h19 => sr_I r20 fun v21 => Q (some (.int v21)) h19))) else (sg_R h11 0 5 0 fun q22 => sv_O h11 q22 1 (tr_X1_deathsBy [.ref q22, .ref q10, .int x5, .int (nI s), .int (nI n)] h11 fun r24 h23 => sr_I r24 fun v25 => Q (some (.int v25)) h23))) else (Q (some (.int v13)) h11)))) → tr_X6_came [.ref 0, .int x1, .int (nI s), .int x3, .int x4, .int x5, .int (nI n)] (hp S) Q := by
        intro S Q h hk
        rw [tq_X6_came]; unfold sm_X6_came_0
        rw [if_neg hx1, c_0, hq_I (k := 1) k1 rfl, h.1.2.2.1, if_neg hx2, c_v, e_ars h.1.2 h.1.1, ea]
        simp only [sr_I]
        rw [if_neg (by decide), e_CisLane]
        simp only [sr_I]
        by_cases hc : (if inb x3 0 3 = 0 then (0 : Int32) else inb x4 0 3) = 0
        · rw [if_pos hc] at hk
          rw [if_neg (fun q => q hc)]
          exact hk
        · rw [if_neg hc] at hk
          rw [if_pos hc, c_8]
          exact hk
      have mdl : ∀ S Q, MI S σ → (if inb x3 0 3 = 0 then Q (some (.int (-1))) (hp S) else if inb x4 0 3 = 0 then Q (some (.int (-1))) (hp S) else (tr_X7_found [.ref 58, .int x3, .int x4, .int x5, .int (nI n)] (hp S) fun r22 h21 => sr_I r22 fun v23 => if 0 ≤ v23 then (if ¬ x1 = ((-1)) then (if ¬ x1 = ((-2)) then (sv_O h21 58 6 (tr_X7_kinds [.ref 58, .int x1, .int (nI s), .int x3, .int x5, .int (nI n)] h21 fun r25 h24 => sr_I r25 fun v26 => Q (some (.int v26)) h24)) else (sv_O h21 58 6 (tr_X7_ups [.ref 58, .int (nI s), .int x3, .int x5, .int (nI n)] h21 fun r28 h27 => sr_I r28 fun v29 => Q (some (.int v29)) h27))) else (sv_O h21 58 6 (tr_X7_deaths [.ref 58, .int (nI s), .int x3, .int x5, .int (nI n)] h21 fun r31 h30 => sr_I r31 fun v32 => Q (some (.int v32)) h30))) else (Q (some (.int v23)) h21))) → tr_X7_came [.ref 58, .int x1, .int (nI s), .int x3, .int x4, .int x5, .int (nI n)] (hp S) Q := by
        intro S Q h hk
        rw [tq_X7_came]; unfold sm_X7_came_0
        rw [m_0, show (sa_I (hp S) 59 1 _) = _ from m_wn (n := 1) (by omega), show S.2.1 59 1 = nI (bN σ.1) from h.1.2.1, e_in, eg]
        simp only [sr_I]
        rw [if_neg (by decide), m_v, e_MisState h.1 ok, ei]
        simp only [sr_I]
        rw [if_neg (by decide), e_in, en]
        simp only [sr_I]
        rw [if_neg (by decide), m_v, e_Mstates h.1 ok]
        simp only [sr_I]
        rw [if_neg ex, e_MisSheet]
        simp only [sr_I]
        by_cases h1 : inb x3 0 3 = 0
        · rw [if_pos h1] at hk ⊢
          exact hk
        · rw [if_neg h1] at hk ⊢
          rw [e_MisLane]
          simp only [sr_I]
          by_cases h2 : inb x4 0 3 = 0
          · rw [if_pos h2] at hk
            rw [if_neg (fun q => q h2)]
            exact hk
          · rw [if_neg h2] at hk
            rw [if_pos h2, m_v]
            exact hk
      rcases in_4 x3 with ⟨k, hk, rfl, e1⟩ | e1
      · rcases in_4 x4 with ⟨la, hla, rfl, e2⟩ | e2
        · by_cases hf : fnd (σ.2.2.2.2 k) (nI la) x5 (nI n) = 0
          · obtain ⟨sz, f, a, b, hs, rfl, hb, hab, hz⟩ := fnd_ok hla (fun l sz f e => wz k hk l sz f e) hf
            have hbn : n = b := (nI_eq (by omega) (by omega)).mp hb
            subst hbn
            rcases hg with rfl | rfl | ⟨g, hgn, rfl⟩
            · refine ⟨nI (bs (dth σ.1 f a s n) (bN σ.1)), σ, fun S Q h hq => cls S Q h ?_, fun S Q h hq => mdl S Q h ?_⟩
              · have ho := h.2.2.2.2 k hk
                rw [e1, e2, if_neg (show ¬ (if (1 : Int32) = 0 then (0 : Int32) else 1) = 0 by decide), s_r hk, s_v hk, e_faultOf hk ho, hf]
                simp only [sr_I]
                rw [hs] at ho
                rw [if_pos trivial, if_neg (by decide), c_7, f_v]
                refine i_deathsC h.1.2 h.1.1 hk ho hab hsn ?_
                simp only [sr_I]
                exact hq S (Fc.rf S) h
              · have ho := h.2.2.2.2 k hk
                rw [e1, if_neg (by decide), e2, if_neg (by decide), e_found hk ho (fun l sz f e => (wz k hk l sz f e).2), hf]
                simp only [sr_I]
                rw [hs] at ho
                rw [if_pos (by decide), if_neg (by decide), m_v]
                refine i_deathsM h wf hk ho hz hab hsn (fun S' t' => ?_)
                simp only [sr_I]
                exact hq S' t'.fm (t'.mi h wf)
            · refine ⟨upa (ups σ.1 f a s n) 200 1, σ, fun S Q h hq => cls S Q h ?_, fun S Q h hq => mdl S Q h ?_⟩
              · have ho := h.2.2.2.2 k hk
                rw [e1, e2, if_neg (show ¬ (if (1 : Int32) = 0 then (0 : Int32) else 1) = 0 by decide), s_r hk, s_v hk, e_faultOf hk ho, hf]
                simp only [sr_I]
                rw [hs] at ho
                rw [if_pos trivial, if_pos (by decide), if_neg (by decide), c_7, f_v]
                refine i_runsC h.1.2 h.1.1 hk ho hab hsn (fun S' s' => ?_)
                simp only [sr_I]
                have s2 : Sx [45, 46, 47, 48] S S' := s'.mono (by simp)
                exact hq S' (fo_fc s2) (h.fo s2)
              · have ho := h.2.2.2.2 k hk
                rw [e1, if_neg (by decide), e2, if_neg (by decide), e_found hk ho (fun l sz f e => (wz k hk l sz f e).2), hf]
                simp only [sr_I]
                rw [hs] at ho
                rw [if_pos (by decide), if_pos (by decide), if_neg (by decide), m_v]
                refine i_upsM h wf hk ho hz hab hsn (fun S' f' h' => ?_)
                simp only [sr_I]
                exact hq S' f' h'
            · have ne1 : ¬ nI g = -1 := fun q => by
                have q := congrArg Int32.toInt q
                rw [nI_toInt (by omega)] at q
                have : ((-1 : Int32)).toInt = -1 := by decide
                omega
              have ne2 : ¬ nI g = -2 := fun q => by
                have q := congrArg Int32.toInt q
                rw [nI_toInt (by omega)] at q
                have : ((-2 : Int32)).toInt = -2 := by decide
                omega
              refine ⟨nI (bs (knd σ.1 f a s n g) 5), σ, fun S Q h hq => cls S Q h ?_, fun S Q h hq => mdl S Q h ?_⟩
              · have ho := h.2.2.2.2 k hk
                rw [e1, e2, if_neg (show ¬ (if (1 : Int32) = 0 then (0 : Int32) else 1) = 0 by decide), s_r hk, s_v hk, e_faultOf hk ho, hf]
                simp only [sr_I]
                rw [hs] at ho
                rw [if_pos trivial, if_pos ne1, if_pos ne2, c_7, f_v]
                refine i_kindsC h.1.2 h.1.1 hk ho hab hsn hgn ?_
                simp only [sr_I]
                exact hq S (Fc.rf S) h
              · have ho := h.2.2.2.2 k hk
                rw [e1, if_neg (by decide), e2, if_neg (by decide), e_found hk ho (fun l sz f e => (wz k hk l sz f e).2), hf]
                simp only [sr_I]
                rw [hs] at ho
                rw [if_pos (by decide), if_pos ne1, if_pos ne2, m_v]
                refine i_kindsM h wf hk ho hz hab hsn hgn (fun S' t' => ?_)
                simp only [sr_I]
                exact hq S' t'.fm (t'.mi h wf)
          · refine Op.same (fnd (σ.2.2.2.2 k) (nI la) x5 (nI n)) (fun S Q h hq => cls S Q h ?_) (fun S Q h hq => mdl S Q h ?_)
            · rw [e1, e2, if_neg (show ¬ (if (1 : Int32) = 0 then (0 : Int32) else 1) = 0 by decide), s_r hk, s_v hk, e_faultOf hk (h.2.2.2.2 k hk)]
              simp only [sr_I]
              rw [if_neg hf]
              exact hq
            · rw [e1, if_neg (by decide), e2, if_neg (by decide), e_found hk (h.2.2.2.2 k hk) (fun l sz f e => (wz k hk l sz f e).2)]
              simp only [sr_I]
              rw [if_neg (fnd_neg hf)]
              exact hq
        · refine Op.same (-1) (fun S Q h hq => cls S Q h ?_) (fun S Q h hq => mdl S Q h ?_)
          · rw [e1, e2, if_pos (show (if (1 : Int32) = 0 then (0 : Int32) else 0) = 0 by decide)]
            exact hq
          · rw [e1, if_neg (by decide), e2, if_pos rfl]
            exact hq
      · refine Op.same (-1) (fun S Q h hq => cls S Q h ?_) (fun S Q h hq => mdl S Q h ?_)
        · rw [e1, if_pos (show (if (0 : Int32) = 0 then (0 : Int32) else inb x4 0 3) = 0 from if_pos rfl)]
          exact hq
        · rw [e1, if_pos rfl]
          exact hq
    · have ea : ars (2 ^ bW σ.1) 8 x2 x6 = 0 := ea
      have hbad : inb x2 0 (nI (2 ^ bW σ.1) - 1) = 0 ∨ inb x6 1 8 = 0 ∨ nI (2 ^ bW σ.1) < x2 + x6 := hbad
      refine Op.same (-1) (fun S Q h hq => ?_) (fun S Q h hq => ?_)
      · rw [tq_X6_came]; unfold sm_X6_came_0
        rw [if_neg hx1, c_0, hq_I (k := 1) k1 rfl, h.1.2.2.1, if_neg hx2, c_v, e_ars h.1.2 h.1.1, ea]
        simp only [sr_I]
        rw [if_pos (by decide)]
        exact hq
      · rw [tq_X7_came]; unfold sm_X7_came_0
        rw [m_0, show (sa_I (hp S) 59 1 _) = _ from m_wn (n := 1) (by omega), show S.2.1 59 1 = nI (bN σ.1) from h.1.2.1, e_in, eg]
        simp only [sr_I]
        rw [if_neg (by decide), m_v, e_MisState h.1 ok]
        simp only [sr_I]
        split
        · exact hq
        rename_i c1
        rw [e_in]
        simp only [sr_I]
        split
        · exact hq
        rename_i c2
        rw [m_v, e_Mstates h.1 ok]
        simp only [sr_I]
        split
        · exact hq
        · rename_i c3
          exfalso
          rcases hbad with q | q | q
          · exact c1 q
          · exact c2 q
          · exact c3 q
