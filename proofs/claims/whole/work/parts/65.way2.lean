/-! the class's ways -/
theorem wv_f {x : Nat} (h : x < 9999) : wv x = nI x := if_pos h
theorem wv_n {x : Nat} (h : ¬ x < 9999) : wv x = -1 := if_neg h
theorem wv_le {x : Nat} : 0 ≤ wv x ↔ x < 9999 := by
  by_cases h : x < 9999
  · rw [wv_f h]
    exact ⟨fun _ => h, fun _ => nI_pos' (by omega)⟩
  · rw [wv_n h]
    exact ⟨fun q => absurd q (by decide), fun q => absurd q h⟩
theorem i_spread {S : st_S} {B : bd} (hB : Bo S 1 B) (ok : Bok B) {e : Nat} (he : e < 2 ^ bW B) {Q : aw_R} (hq : ∀ S', Sx [47, 48] S S' → IsD B e (dst B e) → (∀ s, s < 2 ^ bW B → S'.2.1 47 s = wv (dst B e s)) → Q (some (.int (nI (fb_ct (fun s => decide (dst B e s < 9999)) (2 ^ bW B))))) (hp S')) : tr_X1_spreadFrom [.ref 45, .int (nI e)] (hp S) Q := by
  rw [tq_X1_spreadFrom]
  intro K26 K48 r26 r48
  have hw6 := ok.1.2
  have hw := pw_le hw6
  have hn := ok.2.1
  have kB : ∀ {S3}, Sx [47, 48] S S3 → Bo S3 1 B := fun s3 => hB.kept (s3 1 (by simp)) (s3 2 (by simp))
  have inn : ∀ m g (d ln : Nat → Nat) r h S1, g + m = bN B → h < r → Bfs B e d ln r h → (∀ g', g' < g → d (ac B g' (ln h)) ≤ d (ln h) + 1) → Sx [47, 48] S S1 → (∀ s, s < 2 ^ bW B → S1.2.1 47 s = wv (d s)) → (∀ i, i < r → S1.2.1 48 i = nI (ln i)) → (∀ d' ln' r' S2, Bfs B e d' ln' r' (h + 1) → Sx [47, 48] S S2 → (∀ s, s < 2 ^ bW B → S2.2.1 47 s = wv (d' s)) → (∀ i, i < r' → S2.2.1 48 i = nI (ln' i)) → K26 45 (nI r') (nI (h + 1)) (hp S2)) → K48 45 (nI r) (nI h) (nI (ln h)) (nI g) (hp S1) := by
    intro m
    induction m with
    | zero =>
      intro g d ln r h S1 e1 hh H hg s1 w1 l1 hk
      apply r48
      unfold sm_X1_spreadFrom_48
      rw [f_0, hq_I (k := 1) k1 rfl, (kB s1).2.1, if_pos (nI_le (by omega) (by omega)), nI_1]
      exact hk d ln r S1 (H.next hh (fun g' h' => hg g' (by omega))) s1 w1 l1
    | succ m ih =>
      intro g d ln r h S1 e1 hh H hg s1 w1 l1 hk
      apply r48
      unfold sm_X1_spreadFrom_48
      have gg : g < bN B := by omega
      have hln := H.l h hh
      have ht := ac_w ok gg hln
      have h64 := rn_64 ok hln
      have t64 := rn_64 ok ht
      have bh := H.b h hh
      have hrn := H.rn
      rw [f_0, hq_I (k := 1) k1 rfl, (kB s1).2.1, if_neg (nI_ge (by omega) (by omega)), f_0, b_2, g_r (by omega), (kB s1).2.2.2.2.2 g gg, e_act (ok.2.2.2.2.2 g gg) hw6 h64]
      simp only [sr_I]
      rw [f_2, a_r rfl rfl t64, w1 _ ht, nI_1]
      by_cases hd : d (ac B g (ln h)) < 9999
      · rw [if_pos (wv_le.mpr hd)]
        refine ih (g + 1) d ln r h S1 (by omega) hh H (fun g' h' => ?_) s1 w1 l1 hk
        by_cases hgg : g' = g
        · obtain ⟨i, hi, q⟩ := (H.f _ ht).mp hd
          rw [hgg, ← q]
          exact H.t hh i hi
        · exact hg g' (by omega)
      · obtain ⟨H', hr⟩ := H.add ok hh gg hd
        have dh : d (ln h) < 9999 := by omega
        rw [if_neg (fun q => hd (wv_le.mp q)), if_neg (show ¬ (64 : Int32) ≤ nI r from nI_ge (b := 64) (by omega) (by omega)), f_2, f_2, a_r rfl rfl h64, w1 _ hln, wv_f dh, nI_1, a_s rfl rfl t64, sA_F, f_3, a_s rfl rfl (show r < 64 by omega), sA_F, nI_1]
        have hne : ln h ≠ ac B g (ln h) := fun q => hd (by rw [← q]; exact dh)
        have := ih (g + 1) _ _ (r + 1) h (sF (sF S1 47 (upd (S1.2.1 47) (ac B g (ln h)) (nI (d (ln h) + 1)))) 48 (upd ((sF S1 47 (upd (S1.2.1 47) (ac B g (ln h)) (nI (d (ln h) + 1)))).2.1 48) r (nI (ac B g (ln h))))) (by omega) (by omega) H' (fun g' h' => ?_) ((s1.tr (Sx.F (by simp))).tr (Sx.F (by simp))) (fun s hs => ?_) (fun i hi => ?_) hk
        · rw [show (if h = r then ac B g (ln h) else ln h) = ln h from if_neg (by omega)] at this
          exact this
        · rw [show (if h = r then ac B g (ln h) else ln h) = ln h from if_neg (by omega), if_neg hne]
          by_cases hgg : g' = g
          · rw [hgg, if_pos rfl]
            exact Nat.le_refl _
          · have := hg g' (by omega)
            rw [if_neg (fun q => hd (by rw [← q]; omega))]
            exact this
        · rw [sF_ne _ _ (by omega), sF_at]
          by_cases hst : s = ac B g (ln h)
          · rw [hst, pk_us, if_pos rfl, wv_f (by omega)]
          · rw [pk_un hst, if_neg hst]
            exact w1 s hs
        · rw [sF_at, sF_ne _ _ (by omega)]
          by_cases hir : i = r
          · rw [hir, pk_us, if_pos rfl]
          · rw [pk_un hir, if_neg hir]
            exact l1 i (by omega)
  have out : ∀ m (d ln : Nat → Nat) r h S1, h + m = 64 → Bfs B e d ln r h → Sx [47, 48] S S1 → (∀ s, s < 2 ^ bW B → S1.2.1 47 s = wv (d s)) → (∀ i, i < r → S1.2.1 48 i = nI (ln i)) → K26 45 (nI r) (nI h) (hp S1) := by
    intro m
    induction m with
    | zero =>
      intro d ln r h S1 e1 H s1 w1 l1
      apply r26
      unfold sm_X1_spreadFrom_26
      have := H.rn
      have := H.hr
      have er : r = h := by omega
      subst er
      have D := H.isd ok
      rw [if_pos (nI_le (by omega) (by omega))]
      have := hq S1 s1 (dst_is D) (fun s hs => by rw [w1 s hs, dst_eq ok D hs])
      rw [fb_ct_cong (q := fun s => decide (d s < 9999)) (fun s hs => by rw [dst_eq ok D hs]), H.c] at this
      exact this
    | succ m ih =>
      intro d ln r h S1 e1 H s1 w1 l1
      apply r26
      unfold sm_X1_spreadFrom_26
      have hrn := H.rn
      by_cases hh : h < r
      · rw [if_neg (nI_ge hh (by omega)), if_neg (show ¬ (64 : Int32) ≤ nI h from nI_ge (b := 64) (by omega) (by omega)), f_3, a_r rfl rfl (show h < 64 by omega), l1 h hh]
        exact inn (bN B) 0 d ln r h S1 (by omega) hh H (fun g' q => absurd q (Nat.not_lt_zero g')) s1 w1 l1 (fun d' ln' r' S2 H2 s2 w2 l2 => ih d' ln' r' (h + 1) S2 (by omega) H2 s2 w2 l2)
      · have := H.hr
        have er : r = h := by omega
        subst er
        have D := H.isd ok
        rw [if_pos (nI_le (by omega) (by omega))]
        have := hq S1 s1 (dst_is D) (fun s hs => by rw [w1 s hs, dst_eq ok D hs])
        rw [fb_ct_cong (q := fun s => decide (d s < 9999)) (fun s hs => by rw [dst_eq ok D hs]), H.c] at this
        exact this
  unfold sm_X1_spreadFrom_0
  rw [f_2]
  refine i_fill (fun f hf => ?_)
  simp only [sr_V]
  rw [f_2, a_s rfl rfl (rn_64 ok he), sA_F, sF_F, f_3, show (ss_I (hp _) 48 0 _ _) = _ from a_s (p := 48) (n := 0) rfl rfl (by omega), sA_F, sF_at]
  refine out 64 _ _ 1 0 _ (by omega) (Bfs.begin he) ((Sx.F (by simp)).tr (Sx.F (by simp))) (fun s hs => ?_) (fun i hi => ?_)
  · rw [sF_ne _ _ (by omega), sF_at]
    by_cases hse : s = e
    · rw [hse, pk_us, if_pos rfl]
      rfl
    · rw [pk_un hse, if_neg hse, hf s (rn_64 ok hs)]
      rfl
  · rw [sF_at, show i = 0 by omega, pk_us]
/-- the first gate that leads nearer -/
noncomputable def ngt (B : bd) (e s : Nat) : Nat := fa_first (fun g => decide (dst B e (ac B g s) + 1 = dst B e s)) (bN B)
theorem ngt_lt {B : bd} {e s : Nat} (D : IsD B e (dst B e)) (hs : s < 2 ^ bW B) (h0 : 0 < dst B e s) (h1 : dst B e s < 9999) : ngt B e s < bN B ∧ dst B e (ac B (ngt B e s) s) + 1 = dst B e s := by
  obtain ⟨g, hg, q⟩ := D.p s hs (dst B e s - 1) (by omega) (by omega)
  have hl : ngt B e s < bN B := by
    apply Decidable.byContradiction
    intro q2
    have := fa_first_no (fun g => decide (dst B e (ac B g s) + 1 = dst B e s)) (bN B) g (by unfold ngt at q2; omega)
    simp at this
    omega
  refine ⟨hl, ?_⟩
  have := fa_first_yes (fun g => decide (dst B e (ac B g s) + 1 = dst B e s)) (bN B) hl
  exact of_decide_eq_true this
theorem ngt_no {B : bd} {e s g : Nat} (h : g < ngt B e s) : ¬ dst B e (ac B g s) + 1 = dst B e s := by
  have := fa_first_no (fun g => decide (dst B e (ac B g s) + 1 = dst B e s)) (bN B) g h
  simpa using this
/-- the way -/
noncomputable def pth (B : bd) (e s : Nat) : Nat → Nat
  | 0 => s
  | i + 1 => ac B (ngt B e (pth B e s i)) (pth B e s i)
theorem pth_d {B : bd} (ok : Bok B) {e s : Nat} (D : IsD B e (dst B e)) (hs : s < 2 ^ bW B) (h1 : dst B e s < 9999) : ∀ {i : Nat}, i ≤ dst B e s → pth B e s i < 2 ^ bW B ∧ dst B e (pth B e s i) + i = dst B e s
  | 0, _ => ⟨hs, rfl⟩
  | i + 1, h => by
    have ih := pth_d ok D hs h1 (i := i) (by omega)
    have n1 := ngt_lt D ih.1 (by omega) (by omega)
    refine ⟨ac_w ok n1.1 ih.1, ?_⟩
    have := n1.2
    show dst B e (ac B (ngt B e (pth B e s i)) (pth B e s i)) + (i + 1) = _
    omega
theorem i_nearer {S : st_S} {B : bd} (hB : Bo S 1 B) (ok : Bok B) {e s : Nat} (D : IsD B e (dst B e)) (hm : ∀ t, t < 2 ^ bW B → S.2.1 47 t = wv (dst B e t)) (hs : s < 2 ^ bW B) (h0 : 0 < dst B e s) (h1 : dst B e s < 9999) {Q : aw_R} (hq : Q (some (.int (nI (ngt B e s)))) (hp S)) : tr_X1_nearerGate [.ref 45, .int (nI s)] (hp S) Q := by
  rw [tq_X1_nearerGate]
  intro K2 r2
  have hw6 := ok.1.2
  have hn := ok.2.1
  have n1 := ngt_lt D hs h0 h1
  have s64 := rn_64 ok hs
  have main : ∀ m g, g + m = ngt B e s → K2 45 (nI s) (nI g) (hp S) := by
    intro m
    induction m with
    | zero =>
      intro g eg
      have eg : g = ngt B e s := eg
      apply r2
      unfold sm_X1_nearerGate_2
      have gg : g < bN B := by omega
      have ht := ac_w ok gg hs
      have qd := D.q s hs h1 g gg
      rw [f_0, hq_I (k := 1) k1 rfl, hB.2.1, if_neg (nI_ge (by omega) (by omega)), f_2, f_0, b_2, g_r (by omega), hB.2.2.2.2.2 g gg, e_act (ok.2.2.2.2.2 g gg) hw6 s64]
      simp only [sr_I]
      rw [a_r rfl rfl (rn_64 ok ht), hm _ ht, f_2, a_r rfl rfl s64, hm s hs, wv_f h1, wv_f qd.2, show nI (dst B e s) - 1 = nI (dst B e s - 1) from pk_sub (b := 1) h0]
      have n2 := n1.2
      rw [← eg] at n2
      rw [if_neg (fun q => q (by rw [show dst B e s - 1 = dst B e (ac B g s) by omega])), eg]
      exact hq
    | succ m ih =>
      intro g eg
      apply r2
      unfold sm_X1_nearerGate_2
      have gg : g < bN B := by omega
      have ht := ac_w ok gg hs
      have qd := D.q s hs h1 g gg
      rw [f_0, hq_I (k := 1) k1 rfl, hB.2.1, if_neg (nI_ge (by omega) (by omega)), f_2, f_0, b_2, g_r (by omega), hB.2.2.2.2.2 g gg, e_act (ok.2.2.2.2.2 g gg) hw6 s64]
      simp only [sr_I]
      rw [a_r rfl rfl (rn_64 ok ht), hm _ ht, f_2, a_r rfl rfl s64, hm s hs, wv_f h1, wv_f qd.2, show nI (dst B e s) - 1 = nI (dst B e s - 1) from pk_sub (b := 1) h0]
      have n2 := ngt_no (B := B) (e := e) (s := s) (g := g) (by omega)
      rw [if_pos (fun q => n2 (by have := (nI_eq (by omega) (by omega)).mp q; omega)), nI_1]
      exact ih (g + 1) (by omega)
  exact main (ngt B e s) 0 (by omega)
theorem i_wayLen {S : st_S} {B : bd} (hB : Bo S 1 B) (ok : Bok B) {e s : Nat} (he : e < 2 ^ bW B) (hs : s < 2 ^ bW B) {Q : aw_R} (hq : ∀ S', Sx [47, 48] S S' → IsD B e (dst B e) → (∀ s, s < 2 ^ bW B → S'.2.1 47 s = wv (dst B e s)) → Q (some (.int (if dst B e s < 9999 then nI (dst B e s) else -4))) (hp S')) : tr_X1_wayLength [.ref 45, .int (nI s), .int (nI e)] (hp S) Q := by
  rw [tq_X1_wayLength]
  unfold sm_X1_wayLength_0
  rw [f_v]
  refine i_spread hB ok he (fun S1 s1 D w1 => ?_)
  simp only [sr_I]
  have := hq S1 s1 D w1
  rw [f_2, a_r rfl rfl (rn_64 ok hs), w1 s hs]
  by_cases hd : dst B e s < 9999
  · rw [if_pos hd] at this
    rw [if_pos (wv_le.mpr hd), f_2, a_r rfl rfl (rn_64 ok hs), w1 s hs, wv_f hd]
    exact this
  · rw [if_neg hd] at this
    rw [if_neg (fun q => hd (wv_le.mp q))]
    exact this
/-- the k-th gate of the way -/
noncomputable def wgt (B : bd) (e s k : Nat) : Int32 := if dst B e s < 9999 ∧ k < dst B e s then nI (ngt B e (pth B e s k)) else -4
theorem i_wayGate {S : st_S} {B : bd} (hB : Bo S 1 B) (ok : Bok B) {e s k : Nat} (he : e < 2 ^ bW B) (hs : s < 2 ^ bW B) (hk : k < 2 ^ 31) {Q : aw_R} (hq : ∀ S', Sx [47, 48] S S' → IsD B e (dst B e) → Q (some (.int (wgt B e s k))) (hp S')) : tr_X1_wayGate [.ref 45, .int (nI s), .int (nI e), .int (nI k)] (hp S) Q := by
  rw [tq_X1_wayGate]
  intro K19 r19
  unfold sm_X1_wayGate_0
  rw [f_v]
  refine i_wayLen hB ok he hs (fun S1 s1 D w1 => ?_)
  simp only [sr_I]
  have hB1 : Bo S1 1 B := hB.kept (s1 1 (by simp)) (s1 2 (by simp))
  have hn := ok.2.1
  have fin := hq S1 s1 D
  unfold wgt at fin
  by_cases hd : dst B e s < 9999
  · rw [if_pos hd]
    by_cases hkd : k < dst B e s
    · rw [if_pos (nI_lt hkd (by omega))]
      rw [if_pos ⟨hd, hkd⟩] at fin
      have main : ∀ m i, i + m = k → K19 45 (nI k) (nI (pth B e s i)) (nI i) (hp S1) := by
        intro m
        induction m with
        | zero =>
          intro i ei
          have ei : i = k := ei
          subst ei
          have pd := pth_d ok D hs hd (i := i) (by omega)
          apply r19
          unfold sm_X1_wayGate_19
          rw [if_pos (nI_le (by omega) (by omega)), f_v]
          refine i_nearer hB1 ok D w1 pd.1 (by omega) (by omega) ?_
          simp only [sr_I]
          exact fin
        | succ m ih =>
          intro i ei
          have pd := pth_d ok D hs hd (i := i) (by omega)
          have n1 := ngt_lt D pd.1 (by omega) (by omega)
          apply r19
          unfold sm_X1_wayGate_19
          rw [if_neg (nI_ge (by omega) (by omega)), f_0, b_2, f_v]
          refine i_nearer hB1 ok D w1 pd.1 (by omega) (by omega) ?_
          simp only [sr_I]
          rw [g_r (by omega), hB1.2.2.2.2.2 _ n1.1, e_act (ok.2.2.2.2.2 _ n1.1) ok.1.2 (rn_64 ok pd.1)]
          simp only [sr_I]
          rw [nI_1]
          exact ih (i + 1) (by omega)
      exact main k 0 (by omega)
    · rw [if_neg (nI_nlt (by omega) hk)]
      rw [if_neg (fun q => hkd q.2)] at fin
      exact fin
  · rw [if_neg hd]
    rw [if_neg (fun q => hd q.1)] at fin
    have : ¬ nI k < -4 := fun q => by
      have q := Int32.lt_iff_toInt_lt.mp q
      rw [nI_toInt hk] at q
      have : ((-4 : Int32)).toInt = -4 := by decide
      omega
    rw [if_neg this]
    exact fin
