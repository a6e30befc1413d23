/-! the reference's ways -/
/-- what holds while the numbers come down -/
def Rlx (B : bd) (e : Nat) (y : Nat → Nat) : Prop := y e = 0 ∧ (∀ s, s < 2 ^ bW B → y s = 0 → s = e) ∧ (∀ s, s < 2 ^ bW B → 0 < y s → y s < 9999 → ∃ g, g < bN B ∧ y (ac B g s) + 1 ≤ y s) ∧ ∀ s, s < 2 ^ bW B → y s ≤ 9999
theorem Rlx.put {B : bd} {e s g : Nat} {y : Nat → Nat} (H : Rlx B e y) (hs : s < 2 ^ bW B) (hg : g < bN B) (h : y (ac B g s) + 1 < y s) : Rlx B e (fun t => if t = s then y (ac B g s) + 1 else y t) := by
  obtain ⟨h1, h2, h3, h4⟩ := H
  have hm := h4 s hs
  have hne : ac B g s ≠ s := fun q => by rw [q] at h; omega
  have le : ∀ t, (if t = s then y (ac B g s) + 1 else y t) ≤ y t := fun t => by
    split
    · rename_i q; rw [q]; omega
    · exact Nat.le_refl _
  refine ⟨?_, fun t ht => ?_, fun t ht h0 hl => ?_, fun t ht => ?_⟩
  · show (if e = s then y (ac B g s) + 1 else y e) = 0
    rw [if_neg (fun q => by rw [← q, h1] at h; omega)]
    exact h1
  · show (if t = s then y (ac B g s) + 1 else y t) = 0 → _
    split
    · omega
    · exact h2 t ht
  · have h0 : 0 < (if t = s then y (ac B g s) + 1 else y t) := h0
    have hl : (if t = s then y (ac B g s) + 1 else y t) < 9999 := hl
    show ∃ g', g' < bN B ∧ (if ac B g' t = s then y (ac B g s) + 1 else y (ac B g' t)) + 1 ≤ (if t = s then y (ac B g s) + 1 else y t)
    by_cases hts : t = s
    · refine ⟨g, hg, ?_⟩
      rw [hts, if_neg hne, if_pos rfl]
      exact Nat.le_refl _
    · rw [if_neg hts] at h0 hl ⊢
      obtain ⟨g', hg', q⟩ := h3 t ht h0 hl
      refine ⟨g', hg', ?_⟩
      have := le (ac B g' t)
      omega
  · exact Nat.le_trans (le t) (h4 t ht)
theorem Rlx.isd {B : bd} (ok : Bok B) {e : Nat} {y : Nat → Nat} (H : Rlx B e y) (hf : ∀ s, s < 2 ^ bW B → ∀ g, g < bN B → y s ≤ y (ac B g s) + 1) : IsD B e y := by
  obtain ⟨h1, h2, h3, h4⟩ := H
  have hw := pw_le ok.1.2
  have hp : ∀ s, s < 2 ^ bW B → ∀ k, y s = k + 1 → k + 1 < 9999 → ∃ g, g < bN B ∧ y (ac B g s) = k := fun s hs k e1 hk => by
    obtain ⟨g, hg, q⟩ := h3 s hs (by omega) (by omega)
    have := hf s hs g hg
    exact ⟨g, hg, by omega⟩
  have hit : ∀ (k s : Nat), s < 2 ^ bW B → y s = k → k < 9999 → ∀ j, j ≤ k → ∃ t, t < 2 ^ bW B ∧ y t = j := by
    intro k
    induction k with
    | zero => exact fun s hs e1 _ j hj => ⟨s, hs, by omega⟩
    | succ k ih =>
      intro s hs e1 hk j hj
      by_cases hjk : j = k + 1
      · exact ⟨s, hs, by omega⟩
      · obtain ⟨g, hg, e2⟩ := hp s hs k e1 hk
        exact ih (ac B g s) (ac_w ok hg hs) e2 (by omega) j (by omega)
  have small : ∀ s, s < 2 ^ bW B → y s < 9999 → y s < 64 := fun s hs hd => by
    have hc : ∀ j, ∃ t, j ≤ y s → t < 2 ^ bW B ∧ y t = j := fun j => by
      by_cases hj : j ≤ y s
      · obtain ⟨t, a1, a2⟩ := hit (y s) s hs rfl hd j hj
        exact ⟨t, fun _ => ⟨a1, a2⟩⟩
      · exact ⟨0, fun q => absurd q hj⟩
    have := fb_holes (2 ^ bW B) (y s + 1) (fun j => Classical.choose (hc j)) (fun i hi => (Classical.choose_spec (hc i) (by omega)).1) (fun i j hij hj e => by
      have e : Classical.choose (hc i) = Classical.choose (hc j) := e
      have a1 := (Classical.choose_spec (hc i) (by omega)).2
      have a2 := (Classical.choose_spec (hc j) (by omega)).2
      rw [e, a2] at a1
      omega)
    omega
  refine ⟨h1, h2, hp, fun s hs hd g hg => ?_, h4⟩
  have := hf (ac B g s) (ac_w ok hg hs) g hg
  rw [ac_2 ok hg hs] at this
  have := small s hs hd
  exact ⟨by omega, by omega⟩
theorem m_14r {S : st_S} {n : Nat} (h : n < 64) {K : Int32 → Prop} : sa_I (hp S) 67 (nI n) K = K (S.2.1 67 n) := a_r rfl rfl h
theorem m_14s {S : st_S} {n : Nat} (h : n < 64) {x : Int32} {K : aw_H → Prop} : ss_I (hp S) 67 (nI n) x K = K (hp (sA S 67 n x)) := a_s rfl rfl h
theorem i_layYet {S : st_S} {σ : sg} (hm : MI S σ) (wf : Wf σ) {e : Nat} (he : e < 2 ^ bW σ.1) {Q : aw_R} (hq : ∀ S', Fm S S' → MI S' σ → IsD σ.1 e (dst σ.1 e) → (∀ s, s < 2 ^ bW σ.1 → S'.2.1 67 s = nI (dst σ.1 e s)) → Q none (hp S')) : tr_X7_layYet [.ref 58, .int (nI e)] (hp S) Q := by
  rw [tq_X7_layYet]
  intro K2 K32 K40 K51 r2 r32 r40 r51
  have ok := wf.1
  have hw6 := ok.1.2
  have hw := pw_le hw6
  have hn := ok.2.1
  have mi : ∀ f, MI (sF S 67 f) σ := fun f => hm.t wf (by omega)
  have w1 : ∀ f K, sa_I (hp (sF S 67 f)) 59 1 K = K (nI (bN σ.1)) := fun f K => by
    rw [show (sa_I (hp (sF S 67 f)) 59 1 K) = _ from m_wn (n := 1) (by omega), show (sF S 67 f).2.1 59 1 = nI (bN σ.1) from (mi f).1.2.1]
  have gl : ∀ m g s (b : Bool) (y y0 : Nat → Nat) f, g + m = bN σ.1 → s < 2 ^ bW σ.1 → (∀ t, t < 2 ^ bW σ.1 → f t = nI (y t)) → Rlx σ.1 e y → (b = false → (∀ t, t < 2 ^ bW σ.1 → y t = y0 t) ∧ ∀ t g', (t < s ∧ g' < bN σ.1) ∨ (t = s ∧ g' < g) → y t ≤ y (ac σ.1 g' t) + 1) → (b = true → fb_sm y (2 ^ bW σ.1) < fb_sm y0 (2 ^ bW σ.1)) → (∀ (b' : Bool) (y' : Nat → Nat) f', (∀ t, t < 2 ^ bW σ.1 → f' t = nI (y' t)) → Rlx σ.1 e y' → (b' = false → (∀ t, t < 2 ^ bW σ.1 → y' t = y0 t) ∧ ∀ t g', t < s + 1 ∧ g' < bN σ.1 → y' t ≤ y' (ac σ.1 g' t) + 1) → (b' = true → fb_sm y' (2 ^ bW σ.1) < fb_sm y0 (2 ^ bW σ.1)) → K40 58 (if b' then 1 else 0) (nI (s + 1)) (hp (sF S 67 f'))) → K51 58 (if b then 1 else 0) (nI s) (nI g) (hp (sF S 67 f)) := by
    intro m
    induction m with
    | zero =>
      intro g s b y y0 f eg hs hf H hb0 hb1 hk
      apply r51
      unfold sm_X7_layYet_51
      rw [m_0, w1, if_pos (nI_le (by omega) (by omega)), nI_1]
      refine hk b y f hf H (fun q => ⟨(hb0 q).1, fun t g' h => (hb0 q).2 t g' ?_⟩) hb1
      by_cases hts : t = s
      · exact Or.inr ⟨hts, by omega⟩
      · exact Or.inl ⟨by omega, h.2⟩
    | succ m ih =>
      intro g s b y y0 f eg hs hf H hb0 hb1 hk
      apply r51
      unfold sm_X7_layYet_51
      have gg : g < bN σ.1 := by omega
      have ht := ac_w ok gg hs
      have s64 := rn_64 ok hs
      have t64 := rn_64 ok ht
      have m1 := H.2.2.2 _ hs
      have m2 := H.2.2.2 _ ht
      rw [m_0, w1, if_neg (nI_ge (by omega) (by omega)), m_14, m_v]
      rw [show (tr_X7_doneIn [.ref 58, .int 0, .int (nI g), .int (nI s)] (hp (sF S 67 f))) = _ from funext fun Q => e_MdoneIn (x := 0) (mi f).1.g gg (ok.2.2.2.2.2 g gg) hw6 s64 (by omega)]
      simp only [sr_I]
      rw [m_14r t64, sF_at, hf _ ht, nI_1]
      -- the store, with the flag that then stands
      have st : ∀ (b' : Bool), (b' = true ↔ (b = true ∨ y (ac σ.1 g s) + 1 < y s)) → sm_X7_layYet_99 K2 K32 K40 K51 Q 58 (nI s) (nI g) (nI (y (ac σ.1 g s) + 1)) (if b' then 1 else 0) (hp (sF S 67 f)) := by
        intro b' hb'
        unfold sm_X7_layYet_99
        rw [m_14, m_14, m_14r s64, sF_at, hf s hs, nI_1]
        by_cases hc : y (ac σ.1 g s) + 1 < y s
        · rw [if_neg (nI_ge hc (by omega)), m_14s s64, sA_F, sF_F, sF_at]
          have hb'' : b' = true := hb'.mpr (Or.inr hc)
          have := ih (g + 1) s b' (fun t => if t = s then y (ac σ.1 g s) + 1 else y t) y0 (upd f s (nI (y (ac σ.1 g s) + 1))) (by omega) hs (fun t ht' => ?_) (H.put hs gg hc) (fun q => by rw [hb''] at q; cases q) (fun _ => ?_) hk
          · exact this
          · by_cases hts : t = s
            · rw [hts, pk_us, if_pos rfl]
            · rw [pk_un hts, if_neg hts]
              exact hf t ht'
          · have u := fb_sm_upd y (y (ac σ.1 g s) + 1) hs
            cases hb : b
            · have e0 := fb_sm_cong (hb0 hb).1
              rw [← e0]
              omega
            · have := hb1 hb
              omega
        · rw [if_pos (nI_le (by omega) (by omega)), m_14, m_14r s64, sF_at, hf s hs, m_14s s64, sA_F, sF_F, sF_at, fa_upd_same (hf s hs)]
          have hbb : b' = b := by
            rw [Bool.eq_iff_iff, hb']
            exact ⟨fun q => q.resolve_right hc, Or.inl⟩
          rw [hbb]
          refine ih (g + 1) s b y y0 f (by omega) hs hf H (fun q => ⟨(hb0 q).1, fun t g' h => ?_⟩) hb1 hk
          rcases h with h | ⟨h, h'⟩
          · exact (hb0 q).2 t g' (Or.inl h)
          · by_cases hgg : g' = g
            · rw [h, hgg]
              omega
            · exact (hb0 q).2 t g' (Or.inr ⟨h, by omega⟩)
      cases hb : b
      · rw [if_neg (fun q => q (by simp)), m_14, m_14r s64, sF_at, hf s hs]
        by_cases hc : y (ac σ.1 g s) + 1 < y s
        · rw [if_neg (nI_ge hc (by omega))]
          exact st true (by rw [hb]; simp [hc])
        · rw [if_pos (nI_le (by omega) (by omega))]
          exact st false (by rw [hb]; simp [hc])
      · rw [if_pos (by simp)]
        exact st true (by rw [hb]; simp)
  have sl : ∀ m s (b : Bool) (y y0 : Nat → Nat) f, s + m = 2 ^ bW σ.1 → (∀ t, t < 2 ^ bW σ.1 → f t = nI (y t)) → Rlx σ.1 e y → (b = false → (∀ t, t < 2 ^ bW σ.1 → y t = y0 t) ∧ ∀ t g', t < s ∧ g' < bN σ.1 → y t ≤ y (ac σ.1 g' t) + 1) → (b = true → fb_sm y (2 ^ bW σ.1) < fb_sm y0 (2 ^ bW σ.1)) → (∀ (b' : Bool) (y' : Nat → Nat) f', (∀ t, t < 2 ^ bW σ.1 → f' t = nI (y' t)) → Rlx σ.1 e y' → (b' = false → ∀ t g', t < 2 ^ bW σ.1 → g' < bN σ.1 → y' t ≤ y' (ac σ.1 g' t) + 1) → (b' = true → fb_sm y' (2 ^ bW σ.1) < fb_sm y0 (2 ^ bW σ.1)) → K32 58 (if b' then 1 else 0) (hp (sF S 67 f'))) → K40 58 (if b then 1 else 0) (nI s) (hp (sF S 67 f)) := by
    intro m
    induction m with
    | zero =>
      intro s b y y0 f es hf H hb0 hb1 hk
      apply r40
      unfold sm_X7_layYet_40
      rw [m_v, e_Mstates (mi f).1 ok]
      simp only [sr_I]
      rw [if_pos (nI_le (by omega) (by omega))]
      exact hk b y f hf H (fun q t g' h1 h2 => (hb0 q).2 t g' ⟨by omega, h2⟩) hb1
    | succ m ih =>
      intro s b y y0 f es hf H hb0 hb1 hk
      apply r40
      unfold sm_X7_layYet_40
      rw [m_v, e_Mstates (mi f).1 ok]
      simp only [sr_I]
      rw [if_neg (nI_ge (by omega) (by omega))]
      refine gl (bN σ.1) 0 s b y y0 f (by omega) (by omega) hf H (fun q => ⟨(hb0 q).1, fun t g' h => ?_⟩) hb1 (fun b' y' f' hf' H' h0 h1 => ih (s + 1) b' y' y0 f' (by omega) hf' H' h0 h1 hk)
      rcases h with h | ⟨_, h⟩
      · exact (hb0 q).2 t g' h
      · omega
  have rl : ∀ M (y : Nat → Nat) f, fb_sm y (2 ^ bW σ.1) ≤ M → (∀ t, t < 2 ^ bW σ.1 → f t = nI (y t)) → Rlx σ.1 e y → K32 58 1 (hp (sF S 67 f)) := by
    intro M
    induction M with
    | zero =>
      intro y f hM hf H
      apply r32
      unfold sm_X7_layYet_32
      rw [if_neg (by decide)]
      refine sl (2 ^ bW σ.1) 0 false y y f (by omega) hf H (fun _ => ⟨fun _ _ => rfl, fun t g' h => by omega⟩) (fun q => by cases q) (fun b' y' f' hf' H' h0 h1 => ?_)
      cases hb : b'
      · apply r32
        unfold sm_X7_layYet_32
        rw [if_pos (by simp)]
        have D := H'.isd ok (fun s hs g hg => h0 hb s g hs hg)
        exact hq _ (Fm.F (by omega)) (mi f') (dst_is D) (fun s hs => by rw [sF_at, hf' s hs, dst_eq ok D hs])
      · have := h1 hb
        omega
    | succ M ih =>
      intro y f hM hf H
      apply r32
      unfold sm_X7_layYet_32
      rw [if_neg (by decide)]
      refine sl (2 ^ bW σ.1) 0 false y y f (by omega) hf H (fun _ => ⟨fun _ _ => rfl, fun t g' h => by omega⟩) (fun q => by cases q) (fun b' y' f' hf' H' h0 h1 => ?_)
      cases hb : b'
      · apply r32
        unfold sm_X7_layYet_32
        rw [if_pos (by simp)]
        have D := H'.isd ok (fun s hs g hg => h0 hb s g hs hg)
        exact hq _ (Fm.F (by omega)) (mi f') (dst_is D) (fun s hs => by rw [sF_at, hf' s hs, dst_eq ok D hs])
      · have := h1 hb
        exact ih y' f' (by omega) hf' H'
  have fil : ∀ m k f, k + m = 64 → (∀ j, j < k → f j = 9999) → K2 58 (nI e) (nI k) (hp (sF S 67 f)) := by
    intro m
    induction m with
    | zero =>
      intro k f ek hf
      apply r2
      unfold sm_X7_layYet_2
      rw [if_pos (show (64 : Int32) ≤ nI k from nI_le (a := 64) (by omega) (by omega)), m_14, m_14s (rn_64 ok he), sA_F, sF_F, sF_at]
      refine rl _ (fun t => if t = e then 0 else 9999) _ (Nat.le_refl _) (fun t ht => ?_) ⟨if_pos rfl, fun s hs => ?_, fun s hs => ?_, fun s hs => ?_⟩
      · by_cases hte : t = e
        · rw [hte, pk_us, if_pos rfl]
          rfl
        · rw [pk_un hte, if_neg hte, hf t (by have := rn_64 ok ht; omega)]
          rfl
      · show (if s = e then 0 else 9999) = 0 → _
        split
        · intro _; assumption
        · intro q; omega
      · show 0 < (if s = e then 0 else 9999) → (if s = e then 0 else 9999) < 9999 → _
        split <;> intro q1 q2 <;> omega
      · show (if s = e then 0 else 9999) ≤ 9999
        split <;> omega
    | succ m ih =>
      intro k f ek hf
      apply r2
      unfold sm_X7_layYet_2
      rw [if_neg (show ¬ (64 : Int32) ≤ nI k from nI_ge (b := 64) (by omega) (by omega)), m_14, m_14s (show k < 64 by omega), sA_F, sF_F, sF_at, nI_1]
      refine ih (k + 1) _ (by omega) (fun j hj => ?_)
      by_cases hjk : j = k
      · rw [hjk, pk_us]
      · rw [pk_un hjk, hf j (by omega)]
  have := fil 64 0 (S.2.1 67) (by omega) (fun j hj => absurd hj (Nat.not_lt_zero j))
  rw [sF_self] at this
  exact this
theorem i_kthOn {S : st_S} {σ : sg} (hm : MI S σ) (wf : Wf σ) {e s k : Nat} (D : IsD σ.1 e (dst σ.1 e)) (hy : ∀ t, t < 2 ^ bW σ.1 → S.2.1 67 t = nI (dst σ.1 e t)) (hs : s < 2 ^ bW σ.1) (hd : dst σ.1 e s < 9999) (hk : k < 2 ^ 31) {Q : aw_R} (hq : Q (some (.int (wgt σ.1 e s k))) (hp S)) : tr_X7_kthOn [.ref 58, .int (nI s), .int (nI k)] (hp S) Q := by
  rw [tq_X7_kthOn]
  intro K5 K23 r5 r23
  have ok := wf.1
  have hw6 := ok.1.2
  have hn := ok.2.1
  have d64 := IsD.lt ok D hs hd
  unfold wgt at hq
  have fg : ∀ m g i, g + m = ngt σ.1 e (pth σ.1 e s i) → i < dst σ.1 e s → i ≤ k → (i < k → K5 58 (nI k) (nI (pth σ.1 e s (i + 1))) (nI (i + 1)) (hp S)) → K23 58 (nI k) (nI (pth σ.1 e s i)) (nI i) (nI g) (hp S) := by
    intro m
    induction m with
    | zero =>
      intro g i eg hi hik hkk
      have eg : g = ngt σ.1 e (pth σ.1 e s i) := eg
      have pd := pth_d ok D hs hd (i := i) (by omega)
      have n1 := ngt_lt D pd.1 (by omega) (by omega)
      apply r23
      unfold sm_X7_kthOn_23
      have gg : g < bN σ.1 := by omega
      have ht := ac_w ok gg pd.1
      have p64 := rn_64 ok pd.1
      have qd := D.q _ pd.1 (by omega) g gg
      have ed : ∀ Q', tr_X7_doneIn [.ref 58, .int 0, .int (nI g), .int (nI (pth σ.1 e s i))] (hp S) Q' = Q' (some (.int (nI (ac σ.1 g (pth σ.1 e s i))))) (hp S) := fun Q' => e_MdoneIn (x := 0) hm.1.g gg (ok.2.2.2.2.2 g gg) hw6 p64 (by omega)
      rw [m_14, m_v, ed]
      simp only [sr_I]
      rw [m_14r (rn_64 ok ht), hy _ ht, m_14, m_14r p64, hy _ pd.1, show nI (dst σ.1 e (pth σ.1 e s i)) - 1 = nI (dst σ.1 e (pth σ.1 e s i) - 1) from pk_sub (b := 1) (by omega)]
      have n2 := n1.2
      rw [← eg] at n2
      rw [if_pos (by rw [show dst σ.1 e (pth σ.1 e s i) - 1 = dst σ.1 e (ac σ.1 g (pth σ.1 e s i)) by omega])]
      by_cases hikk : i = k
      · rw [if_neg (fun q => q (by rw [hikk])), eg]
        rw [if_pos ⟨hd, by omega⟩, ← hikk] at hq
        exact hq
      · rw [if_pos (fun q => hikk ((nI_eq (by omega) hk).mp q)), m_v, ed]
        simp only [sr_I]
        rw [nI_1, eg]
        exact hkk (by omega)
    | succ m ih =>
      intro g i eg hi hik hkk
      have pd := pth_d ok D hs hd (i := i) (by omega)
      have n1 := ngt_lt D pd.1 (by omega) (by omega)
      apply r23
      unfold sm_X7_kthOn_23
      have gg : g < bN σ.1 := by omega
      have ht := ac_w ok gg pd.1
      have p64 := rn_64 ok pd.1
      have qd := D.q _ pd.1 (by omega) g gg
      have ed : ∀ Q', tr_X7_doneIn [.ref 58, .int 0, .int (nI g), .int (nI (pth σ.1 e s i))] (hp S) Q' = Q' (some (.int (nI (ac σ.1 g (pth σ.1 e s i))))) (hp S) := fun Q' => e_MdoneIn (x := 0) hm.1.g gg (ok.2.2.2.2.2 g gg) hw6 p64 (by omega)
      rw [m_14, m_v, ed]
      simp only [sr_I]
      rw [m_14r (rn_64 ok ht), hy _ ht, m_14, m_14r p64, hy _ pd.1, show nI (dst σ.1 e (pth σ.1 e s i)) - 1 = nI (dst σ.1 e (pth σ.1 e s i) - 1) from pk_sub (b := 1) (by omega)]
      have n2 := ngt_no (B := σ.1) (e := e) (s := pth σ.1 e s i) (g := g) (by omega)
      rw [if_neg (fun q => n2 (by have := (nI_eq (by omega) (by omega)).mp q; omega)), nI_1]
      exact ih (g + 1) i (by omega) hi hik hkk
  have main : ∀ m i, i + m = dst σ.1 e s → i ≤ k + 1 → (i ≤ k ∨ False) → K5 58 (nI k) (nI (pth σ.1 e s i)) (nI i) (hp S) := by
    intro m
    induction m with
    | zero =>
      intro i ei _ hik
      have hik : i ≤ k := hik.resolve_right id
      have pd := pth_d ok D hs hd (i := i) (by omega)
      apply r5
      unfold sm_X7_kthOn_5
      rw [if_neg (nI_nlt hik hk), m_14, m_14r (rn_64 ok pd.1), hy _ pd.1, show dst σ.1 e (pth σ.1 e s i) = 0 by omega, if_pos (by decide)]
      rw [if_neg (fun q => by omega)] at hq
      exact hq
    | succ m ih =>
      intro i ei _ hik
      have hik : i ≤ k := hik.resolve_right id
      have pd := pth_d ok D hs hd (i := i) (by omega)
      have n1 := ngt_lt D pd.1 (by omega) (by omega)
      apply r5
      unfold sm_X7_kthOn_5
      rw [if_neg (nI_nlt hik hk), m_14, m_14r (rn_64 ok pd.1), hy _ pd.1, if_neg (nI_nle (by omega) (by omega))]
      exact fg (ngt σ.1 e (pth σ.1 e s i)) 0 i (by omega) (by omega) hik (fun hlt => ih (i + 1) (by omega) (by omega) (Or.inl hlt))
  exact main (dst σ.1 e s) 0 (by omega) (by omega) (Or.inl (Nat.zero_le k))
theorem op_reach {σ : sg} (wf : Wf σ) (x : Int32) : Op tr_X6_reach tr_X7_reach σ [.int x] := by
  have ok := wf.1
  have hw := pw_le ok.1.2
  rcases inb_nat (x := x) (n := 2 ^ bW σ.1) (by omega) with ⟨e, he, rfl, e1⟩ | ⟨hj, e1⟩
  · refine ⟨nI (fb_ct (fun s => decide (dst σ.1 e s < 9999)) (2 ^ bW σ.1)), σ, fun S Q h hq => ?_, fun S Q h hq => ?_⟩
    · rw [tq_X6_reach]; unfold sm_X6_reach_0
      rw [c_v, e_CisState h.1.2 h.1.1, e1]
      simp only [sr_I]
      rw [if_pos (by decide), c_7, f_v]
      refine i_spread h.1.2 h.1.1 he (fun S1 s1 _ _ => ?_)
      simp only [sr_I]
      have s2 : Sx [45, 46, 47, 48] S S1 := s1.mono (by simp)
      exact hq S1 (fo_fc s2) (h.fo s2)
    · rw [tq_X7_reach]
      intro K19 r19
      unfold sm_X7_reach_0
      rw [m_v, e_MisState h.1 ok, e1]
      simp only [sr_I]
      rw [if_pos (by decide), m_v]
      refine i_layYet h wf he (fun S1 f1 h1 D y1 => ?_)
      simp only [sr_V]
      have main : ∀ m s, s + m = 2 ^ bW σ.1 → K19 58 (nI (fb_ct (fun s => decide (dst σ.1 e s < 9999)) s)) (nI s) (hp S1) := by
        intro m
        induction m with
        | zero =>
          intro s es
          apply r19
          unfold sm_X7_reach_19
          rw [m_v, e_Mstates h1.1 ok]
          simp only [sr_I]
          rw [if_pos (nI_le (by omega) (by omega)), show s = 2 ^ bW σ.1 by omega]
          exact hq S1 f1 h1
        | succ m ih =>
          intro s es
          apply r19
          unfold sm_X7_reach_19
          rw [m_v, e_Mstates h1.1 ok]
          simp only [sr_I]
          have hs : s < 2 ^ bW σ.1 := by omega
          have hm := D.m s hs
          have ih' := ih (s + 1) (by omega)
          rw [fb_ct_succ, ← nI_add] at ih'
          rw [if_neg (nI_ge (by omega) (by omega)), m_14, m_14r (rn_64 ok hs), y1 s hs, nI_1]
          by_cases hd : dst σ.1 e s < 9999
          · rw [if_neg (show ¬ (9999 : Int32) ≤ nI (dst σ.1 e s) from nI_ge (b := 9999) hd (by omega))]
            rw [if_pos (by simpa using hd)] at ih'
            exact ih'
          · rw [if_pos (show (9999 : Int32) ≤ nI (dst σ.1 e s) from nI_le (a := 9999) (by omega) (by omega))]
            rw [if_neg (by simpa using hd)] at ih'
            exact ih'
      exact main (2 ^ bW σ.1) 0 (by omega)
  · refine Op.same (-1) (fun S Q h hq => ?_) (fun S Q h hq => ?_)
    · rw [tq_X6_reach]; unfold sm_X6_reach_0
      rw [c_v, e_CisState h.1.2 h.1.1, e1]
      simp only [sr_I]
      rw [if_neg (by decide)]
      exact hq
    · rw [tq_X7_reach]; intro K r; unfold sm_X7_reach_0
      rw [m_v, e_MisState h.1 wf.1, e1]
      simp only [sr_I]
      rw [if_neg (by decide)]
      exact hq
theorem op_way {σ : sg} (wf : Wf σ) (x y z : Int32) : Op tr_X6_way tr_X7_way σ [.int x, .int y, .int z] := by
  have ok := wf.1
  have hw := pw_le ok.1.2
  rcases inb_nat (x := x) (n := 2 ^ bW σ.1) (by omega) with ⟨s, hs, rfl, e1⟩ | ⟨hj, e1⟩
  · rcases inb_nat (x := y) (n := 2 ^ bW σ.1) (by omega) with ⟨e, he, rfl, e2⟩ | ⟨hj, e2⟩
    · by_cases hz : -1 ≤ z
      · by_cases hz1 : z = -1
        · refine ⟨if dst σ.1 e s < 9999 then nI (dst σ.1 e s) else -4, σ, fun S Q h hq => ?_, fun S Q h hq => ?_⟩
          · rw [tq_X6_way]; unfold sm_X6_way_0
            rw [c_v, e_CisState h.1.2 h.1.1, e1]
            simp only [sr_I]
            rw [if_neg (by decide), c_v, e_CisState h.1.2 h.1.1, e2]
            simp only [sr_I]
            rw [if_neg (by decide), if_pos hz, if_neg (fun q => q hz1), c_7, f_v]
            refine i_wayLen h.1.2 h.1.1 he hs (fun S1 s1 _ _ => ?_)
            simp only [sr_I]
            have s2 : Sx [45, 46, 47, 48] S S1 := s1.mono (by simp)
            exact hq S1 (fo_fc s2) (h.fo s2)
          · rw [tq_X7_way]; unfold sm_X7_way_0
            rw [m_v, e_MisState h.1 ok, e1]
            simp only [sr_I]
            rw [if_neg (by decide), m_v, e_MisState h.1 ok, e2]
            simp only [sr_I]
            rw [if_neg (by decide), if_pos hz, m_v]
            refine i_layYet h wf he (fun S1 f1 h1 D y1 => ?_)
            simp only [sr_V]
            have := hq S1 f1 h1
            rw [m_14, m_14r (rn_64 ok hs), y1 s hs]
            by_cases hd : dst σ.1 e s < 9999
            · rw [if_pos hd] at this
              rw [if_pos (show nI (dst σ.1 e s) < (9999 : Int32) from nI_lt (b := 9999) hd (by omega)), hz1, if_neg (by decide), m_14, m_14r (rn_64 ok hs), y1 s hs]
              exact this
            · rw [if_neg hd] at this
              have hm := D.m s hs
              rw [if_neg (show ¬ nI (dst σ.1 e s) < (9999 : Int32) from nI_nlt (b := 9999) (by omega) (by omega))]
              exact this
        · have hz0 : ¬ z < 0 := fun q => by
            have q := Int32.lt_iff_toInt_lt.mp q
            have hz := Int32.le_iff_toInt_le.mp hz
            have m1 : ((-1 : Int32)).toInt = -1 := by decide
            have m0 : ((0 : Int32)).toInt = 0 := by decide
            exact hz1 (Int32.toInt_inj.mp (by omega))
          obtain ⟨k, hk, rfl⟩ := nI_of hz0
          refine ⟨wgt σ.1 e s k, σ, fun S Q h hq => ?_, fun S Q h hq => ?_⟩
          · rw [tq_X6_way]; unfold sm_X6_way_0
            rw [c_v, e_CisState h.1.2 h.1.1, e1]
            simp only [sr_I]
            rw [if_neg (by decide), c_v, e_CisState h.1.2 h.1.1, e2]
            simp only [sr_I]
            rw [if_neg (by decide), if_pos hz, if_pos hz1, c_7, f_v]
            refine i_wayGate h.1.2 h.1.1 he hs hk (fun S1 s1 _ => ?_)
            simp only [sr_I]
            have s2 : Sx [45, 46, 47, 48] S S1 := s1.mono (by simp)
            exact hq S1 (fo_fc s2) (h.fo s2)
          · rw [tq_X7_way]; unfold sm_X7_way_0
            rw [m_v, e_MisState h.1 ok, e1]
            simp only [sr_I]
            rw [if_neg (by decide), m_v, e_MisState h.1 ok, e2]
            simp only [sr_I]
            rw [if_neg (by decide), if_pos hz, m_v]
            refine i_layYet h wf he (fun S1 f1 h1 D y1 => ?_)
            simp only [sr_V]
            have := hq S1 f1 h1
            rw [m_14, m_14r (rn_64 ok hs), y1 s hs]
            by_cases hd : dst σ.1 e s < 9999
            · rw [if_pos (show nI (dst σ.1 e s) < (9999 : Int32) from nI_lt (b := 9999) hd (by omega)), if_pos (nI_pos' hk), m_v]
              refine i_kthOn h1 wf D y1 hs hd hk ?_
              simp only [sr_I]
              exact this
            · unfold wgt at this
              rw [if_neg (fun q => hd q.1)] at this
              have hm := D.m s hs
              rw [if_neg (show ¬ nI (dst σ.1 e s) < (9999 : Int32) from nI_nlt (b := 9999) (by omega) (by omega))]
              exact this
      · refine Op.same (-1) (fun S Q h hq => ?_) (fun S Q h hq => ?_)
        · rw [tq_X6_way]; unfold sm_X6_way_0
          rw [c_v, e_CisState h.1.2 h.1.1, e1]
          simp only [sr_I]
          rw [if_neg (by decide), c_v, e_CisState h.1.2 h.1.1, e2]
          simp only [sr_I]
          rw [if_neg (by decide), if_neg hz]
          exact hq
        · rw [tq_X7_way]; unfold sm_X7_way_0
          rw [m_v, e_MisState h.1 ok, e1]
          simp only [sr_I]
          rw [if_neg (by decide), m_v, e_MisState h.1 ok, e2]
          simp only [sr_I]
          rw [if_neg (by decide), if_neg hz]
          exact hq
    · refine Op.same (-1) (fun S Q h hq => ?_) (fun S Q h hq => ?_)
      · rw [tq_X6_way]; unfold sm_X6_way_0
        rw [c_v, e_CisState h.1.2 h.1.1, e1]
        simp only [sr_I]
        rw [if_neg (by decide), c_v, e_CisState h.1.2 h.1.1, e2]
        simp only [sr_I]
        rw [if_pos (by decide)]
        exact hq
      · rw [tq_X7_way]; unfold sm_X7_way_0
        rw [m_v, e_MisState h.1 ok, e1]
        simp only [sr_I]
        rw [if_neg (by decide), m_v, e_MisState h.1 ok, e2]
        simp only [sr_I]
        rw [if_pos (by decide)]
        exact hq
  · refine Op.same (-1) (fun S Q h hq => ?_) (fun S Q h hq => ?_)
    · rw [tq_X6_way]; unfold sm_X6_way_0
      rw [c_v, e_CisState h.1.2 h.1.1, e1]
      simp only [sr_I]
      rw [if_pos (by decide)]
      exact hq
    · rw [tq_X7_way]; unfold sm_X7_way_0
      rw [m_v, e_MisState h.1 ok, e1]
      simp only [sr_I]
      rw [if_pos (by decide)]
      exact hq
