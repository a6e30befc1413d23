/-! what is tried; alike, shows -/
def Te (S S1 : st_S) : Prop := ∃ f, S1 = sF S 59 f ∧ ∀ k, k < 1532 → f k = S.2.1 59 k
def Ty (S S1 : st_S) (n : Nat) (γ : Nat → gt) : Prop := Te S S1 ∧ Rg S1 1532 n γ
theorem Te.rf (S : st_S) : Te S S := ⟨S.2.1 59, (sF_self S 59).symm, fun _ _ => rfl⟩
theorem Te.tr {S S1 S2 : st_S} (h : Te S S1) (h' : Te S1 S2) : Te S S2 := by
  obtain ⟨f, rfl, h1⟩ := h
  obtain ⟨g, rfl, h2⟩ := h'
  refine ⟨g, sF_F _ _ _ _, fun k hk => ?_⟩
  rw [h2 k hk, sF_at, h1 k hk]
theorem Te.fm {S S1 : st_S} (h : Te S S1) : Fm S S1 := by
  obtain ⟨f, rfl, h1⟩ := h
  exact Fm.F (by omega)
theorem Te.mi {S S1 : st_S} {σ : sg} (h : Te S S1) (hm : MI S σ) (wf : Wf σ) : MI S1 σ := by
  obtain ⟨f, rfl, h1⟩ := h
  exact hm.scr wf (fun k hk => by rw [sF_at]; exact h1 k hk) rfl rfl (sF_ne _ _ (by omega)) rfl (sF_ne _ _ (by omega)) (sF_ne _ _ (by omega))
theorem Te.t {S S1 : st_S} (h : Te S S1) {q : Nat} (hq : q ≠ 59) : S1.2.1 q = S.2.1 q := by
  obtain ⟨f, rfl, h1⟩ := h
  exact sF_ne _ _ hq
theorem Te.l {S S1 : st_S} (h : Te S S1) : S1.2.2 = S.2.2 := by
  obtain ⟨f, rfl, h1⟩ := h
  rfl
theorem Te.tb {S S1 : st_S} {B : bd} (h : Te S S1) (ht : tbl S 64 B) : tbl S1 64 B := fun s hs => by rw [h.t (by omega)]; exact ht s hs
theorem i_try {S : st_S} {σ : sg} (hm : MI S σ) (wf : Wf σ) {Q : aw_R} (hq : ∀ S1, Ty S S1 (bN σ.1) (bG σ.1) → Q none (hp S1)) : tr_X7_beginTry [.ref 58] (hp S) Q := by
  rw [tq_X7_beginTry]
  unfold sm_X7_beginTry_0
  rw [m_v]
  refine i_copyRow (x := 0) (y := 1532) (m := 85) (by omega) (by omega) (by omega) ?_
  simp only [sr_V]
  have hn := wf.1.2.1
  refine hq _ ⟨⟨_, rfl, fun k hk => wcp_out (by omega)⟩, fun g hg => ?_⟩
  have h0 := hm.1.2.2.2.2.2 g hg
  rw [sF_at, wcp_in (by omega), wcp_in (by omega), wcp_in (by omega), wcp_in (by omega), wcp_in (by omega)]
  rw [show 0 + (1532 + 5 + 5 * g - 1532) = 0 + 5 + 5 * g by omega, show 0 + (1532 + 5 + 5 * g + 1 - 1532) = 0 + 5 + 5 * g + 1 by omega, show 0 + (1532 + 5 + 5 * g + 2 - 1532) = 0 + 5 + 5 * g + 2 by omega, show 0 + (1532 + 5 + 5 * g + 3 - 1532) = 0 + 5 + 5 * g + 3 by omega, show 0 + (1532 + 5 + 5 * g + 4 - 1532) = 0 + 5 + 5 * g + 4 by omega]
  exact h0
theorem Ty.set {S S1 : st_S} {n : Nat} {γ : Nat → gt} (h : Ty S S1 n γ) {i : Nat} {g' : gt} {f : Nat → Int32} (hf : ∀ k, k < 1532 → f k = S1.2.1 59 k) (hi : f (1532 + 5 + 5 * i) = nI g'.1 ∧ f (1532 + 5 + 5 * i + 1) = nI g'.2.1 ∧ f (1532 + 5 + 5 * i + 2) = nI g'.2.2.1 ∧ f (1532 + 5 + 5 * i + 3) = nI g'.2.2.2.1 ∧ f (1532 + 5 + 5 * i + 4) = nI g'.2.2.2.2) (ho : ∀ g, g ≠ i → ∀ k, k < 5 → f (1532 + 5 + 5 * g + k) = S1.2.1 59 (1532 + 5 + 5 * g + k)) : Ty S (sF S1 59 f) n (gput γ i g') := by
  refine ⟨h.1.tr ⟨f, rfl, hf⟩, fun g hg => ?_⟩
  rw [sF_at]
  by_cases hgi : g = i
  · rw [hgi, show gput γ i g' i = g' from if_pos rfl]
    exact hi
  · rw [show gput γ i g' g = γ g from if_neg hgi]
    have h0 := h.2 g hg
    exact ⟨(ho g hgi 0 (by omega)).trans h0.1, (ho g hgi 1 (by omega)).trans h0.2.1, (ho g hgi 2 (by omega)).trans h0.2.2.1, (ho g hgi 3 (by omega)).trans h0.2.2.2.1, (ho g hgi 4 (by omega)).trans h0.2.2.2.2⟩
def gkl (γ : Nat → gt) (i : Nat) : Nat → gt := gput γ i (gdd (γ i) 1)
theorem i_killIn {S S1 : st_S} {n : Nat} {γ : Nat → gt} (h : Ty S S1 n γ) {i : Nat} (hi : i < n) (hn : n ≤ 16) {Q : aw_R} (hq : ∀ S2, Ty S S2 n (gkl γ i) → Q none (hp S2)) : tr_X7_killIn [.ref 58, .int (nI i)] (hp S1) Q := by
  rw [tq_X7_killIn]
  unfold sm_X7_killIn_0
  rw [m_0, show (((1537 : Int32) + 5 * nI i) + 4) = nI (1532 + 5 + 5 * i + 4) from gixk 1532 i 4, m_wsn (by omega), sA_F]
  have h0 := h.2 i hi
  refine hq _ (h.set (fun k hk => pk_un (by omega)) ⟨?_, ?_, ?_, ?_, ?_⟩ (fun g hg k hk => pk_un (by omega)))
  · rw [pk_un (by omega)]; exact h0.1
  · rw [pk_un (by omega)]; exact h0.2.1
  · rw [pk_un (by omega)]; exact h0.2.2.1
  · rw [pk_un (by omega)]; exact h0.2.2.2.1
  · rw [pk_us]; rfl
theorem i_swapTry {S S1 : st_S} {n : Nat} {γ : Nat → gt} (h : Ty S S1 n γ) {i j : Nat} (hi : i < n) (hj : j < n) (hij : i ≠ j) (hn : n ≤ 16) {Q : aw_R} (hq : ∀ S2, Ty S S2 n (swp γ i j) → Q none (hp S2)) : tr_X7_swapIn [.ref 58, .int 1532, .int (nI i), .int (nI j)] (hp S1) Q := by
  refine i_swapIn (x := 1532) (by omega) (by omega) hij (by omega) (hq _ ⟨h.1.tr ⟨_, rfl, fun k hk => ?_⟩, fun g hg => ?_⟩)
  · unfold wsw
    rw [if_neg (by omega), if_neg (by omega)]
  · rw [sF_at]
    exact wsw_g hi hj hij h.2 hg
def eqf (f g : Nat → Nat) (N : Nat) : Bool := decide (∀ s, s < N → f s = g s)
theorem eqf_t {f g : Nat → Nat} {N : Nat} : eqf f g N = true ↔ ∀ s, s < N → f s = g s := by simp [eqf]
theorem eqf_f {f g : Nat → Nat} {N : Nat} (s : Nat) (hs : s < N) (h : f s ≠ g s) : eqf f g N = false := by
  cases e : eqf f g N
  · rfl
  · exact absurd (eqf_t.mp e s hs) h
theorem eqf_cong {f g f' g' : Nat → Nat} {N : Nat} (h : (∀ s, s < N → f s = g s) ↔ ∀ s, s < N → f' s = g' s) : eqf f g N = eqf f' g' N := by
  unfold eqf
  exact decide_eq_decide.mpr h
theorem i_isSame {S : st_S} {σ : sg} (hm : MI S σ) (wf : Wf σ) {γ : Nat → gt} (hR : Rg S 1532 (bN σ.1) γ) (hg : ∀ g, g < bN σ.1 → gok (bW σ.1) (γ g)) (ht : tbl S 64 σ.1) {Q : aw_R} (hq : Q (some (.int (if eqf (grun γ (bN σ.1)) (rn σ.1) (2 ^ bW σ.1) then 1 else 0))) (hp S)) : tr_X7_isSame [.ref 58] (hp S) Q := by
  rw [tq_X7_isSame]
  intro K4 r4
  have hw := pw_le wf.1.1.2
  have main : ∀ m s, s + m = 2 ^ bW σ.1 → (∀ t, t < s → grun γ (bN σ.1) t = rn σ.1 t) → K4 58 1 (nI s) (hp S) := by
    intro m
    induction m with
    | zero =>
      intro s e hs
      apply r4
      unfold sm_X7_isSame_4
      rw [m_v, e_Mstates hm.1 wf.1]
      simp only [sr_I]
      rw [if_pos (nI_le (by omega) (by omega))]
      rw [eqf_t.mpr (fun t h => hs t (by omega)), if_pos rfl] at hq
      exact ⟨by simp, hq⟩
    | succ m ih =>
      intro s e hs
      apply r4
      unfold sm_X7_isSame_4
      rw [m_v, e_Mstates hm.1 wf.1]
      simp only [sr_I]
      rw [if_neg (nI_ge (by omega) (by omega)), if_neg (by decide), m_v]
      refine i_MrunIn (x := 1532) (w := bW σ.1) hR hm.1.2.1 wf.1.2.1 hg wf.1.1.2 (by omega) (by omega) ?_
      simp only [sr_I]
      rw [m_7, t_r (by omega), ht s (by omega), nI_1]
      have l1 := grun_lt wf.1.1.2 hg (show s < 64 by omega)
      have l2 := rn_w wf.1 (show s < 2 ^ bW σ.1 by omega)
      by_cases hc : grun γ (bN σ.1) s = rn σ.1 s
      · rw [hc, if_neg (fun q => q rfl)]
        exact ih (s + 1) (by omega) (fun t h => by
          by_cases htt : t = s
          · rw [htt]; exact hc
          · exact hs t (by omega))
      · rw [if_pos (fun q => hc ((nI_eq (by omega) (by omega)).mp q))]
        rw [eqf_f s (by omega) hc] at hq
        apply r4
        unfold sm_X7_isSame_4
        rw [m_v, e_Mstates hm.1 wf.1]
        simp only [sr_I]
        split
        · exact ⟨by simp, hq⟩
        · rw [if_pos trivial]
          exact ⟨by simp, hq⟩
  exact main (2 ^ bW σ.1) 0 (by omega) (fun t h => absurd h (Nat.not_lt_zero t))
theorem i_runChanged {S : st_S} {B : bd} (hB : Bo S 1 B) (ok : Bok B) {i j s : Nat} (hi : i < bN B) (hj : j < bN B) (hs : s < 64) {Q : aw_R} (hq : Q (some (.int (nI (grun (swp (bG B) i j) (bN B) s)))) (hp S)) : tr_X1_runChanged [.ref 45, .int (nI s), .int (nI i), .int (nI j)] (hp S) Q := by
  rw [tq_X1_runChanged]
  intro K6 r6
  have hn := ok.2.1
  have hsw : ∀ k, k < bN B → gok (bW B) (swp (bG B) i j k) := (mvB_ok ok hi hj).2.2.2.2.2
  have main : ∀ m g, g + m = bN B → K6 45 (nI i) (nI j) (nI (grun (swp (bG B) i j) g s)) (nI g) (hp S) := by
    intro m
    induction m with
    | zero =>
      intro g e
      apply r6
      unfold sm_X1_runChanged_6
      rw [f_0, hq_I (k := 1) k1 rfl, hB.2.1, if_pos (nI_le (by omega) (by omega)), show g = bN B by omega]
      exact hq
    | succ m ih =>
      intro g e
      apply r6
      unfold sm_X1_runChanged_6
      have ih' := ih (g + 1) (by omega)
      have hl := grun_lt ok.1.2 (n := g) (fun g' h' => hsw g' (by omega)) hs
      have fin : ∀ q, q < bN B → swp (bG B) i j g = bG B q → sm_X1_runChanged_40 K6 Q 45 (nI i) (nI j) (nI (grun (swp (bG B) i j) g s)) (nI g) (nI q) (hp S) := by
        intro q hq1 hq2
        unfold sm_X1_runChanged_40
        rw [f_0, b_2, g_r (by omega), hB.2.2.2.2.2 q hq1, e_act (ok.2.2.2.2.2 q hq1) ok.1.2 hl]
        simp only [sr_I]
        rw [nI_1, ← hq2]
        exact ih'
      rw [f_0, hq_I (k := 1) k1 rfl, hB.2.1, if_neg (nI_ge (by omega) (by omega))]
      by_cases h1 : g = i
      · rw [if_neg (fun q => q (by rw [h1]))]
        exact fin j hj (if_pos h1)
      · rw [if_pos (fun q => h1 ((nI_eq (by omega) (by omega)).mp q))]
        by_cases h2 : g = j
        · rw [if_neg (fun q => q (by rw [h2]))]
          exact fin i hi (by unfold swp; rw [if_neg h1, if_pos h2])
        · rw [if_pos (fun q => h2 ((nI_eq (by omega) (by omega)).mp q))]
          exact fin g (by omega) (by unfold swp; rw [if_neg h1, if_neg h2])
  exact main (bN B) 0 (by omega)
theorem i_mayChange {S : st_S} {B : bd} (hB : Bo S 1 B) (ok : Bok B) {i j : Nat} (hi : i < bN B) (hj : j < bN B) {Q : aw_R} (hq : Q (some (.int (if eqf (grun (swp (bG B) i j) (bN B)) (rn B) (2 ^ bW B) then 1 else 0))) (hp S)) : tr_X1_mayChangePlaces [.ref 45, .int (nI i), .int (nI j)] (hp S) Q := by
  rw [tq_X1_mayChangePlaces]
  intro K11 r11
  have hw := pw_le ok.1.2
  have hsw : ∀ k, k < bN B → gok (bW B) (swp (bG B) i j k) := (mvB_ok ok hi hj).2.2.2.2.2
  have main : ∀ m s, s + m = 2 ^ bW B → (∀ t, t < s → grun (swp (bG B) i j) (bN B) t = rn B t) → K11 45 (nI i) (nI j) (nI (2 ^ bW B)) (nI s) (hp S) := by
    intro m
    induction m with
    | zero =>
      intro s e hs
      apply r11
      unfold sm_X1_mayChangePlaces_11
      rw [if_pos (nI_le (by omega) (by omega))]
      rw [eqf_t.mpr (fun t h => hs t (by omega)), if_pos rfl] at hq
      exact hq
    | succ m ih =>
      intro s e hs
      apply r11
      unfold sm_X1_mayChangePlaces_11
      rw [if_neg (nI_ge (by omega) (by omega)), f_0, b_v]
      refine i_run k1 hB ok (by omega) ?_
      simp only [sr_I]
      rw [f_v]
      refine i_runChanged hB ok hi hj (by omega) ?_
      simp only [sr_I]
      have l1 := grun_lt ok.1.2 hsw (show s < 64 by omega)
      have l2 := rn_w ok (show s < 2 ^ bW B by omega)
      by_cases hc : grun (swp (bG B) i j) (bN B) s = rn B s
      · rw [if_pos (by rw [hc]), nI_1]
        exact ih (s + 1) (by omega) (fun t h => by
          by_cases htt : t = s
          · rw [htt]; exact hc
          · exact hs t (by omega))
      · rw [if_neg (fun q => hc ((nI_eq (by omega) (by omega)).mp q).symm)]
        rw [eqf_f s (by omega) hc] at hq
        exact hq
  unfold sm_X1_mayChangePlaces_0
  rw [f_0, b_v, e_Bstates k1 hB ok]
  simp only [sr_I]
  exact main (2 ^ bW B) 0 (by omega) (fun t h => absurd h (Nat.not_lt_zero t))
theorem b01 (b : Bool) {P : Int32 → Prop} : (if (if b then (1 : Int32) else 0) = 0 then P 0 else P 1) = P (if b then 1 else 0) := by
  cases b <;> simp
theorem op_alike {σ : sg} (wf : Wf σ) (x y : Int32) : Op tr_X6_alike tr_X7_alike σ [.int x, .int y] := by
  have hn := wf.1.2.1
  rcases two_g hn x y with ⟨i, j, hi, hj, hij, rfl, rfl, e1, e2, hne⟩ | ⟨e, hc⟩
  · refine ⟨if eqf (grun (swp (bG σ.1) i j) (bN σ.1)) (rn σ.1) (2 ^ bW σ.1) then 1 else 0, σ, fun S Q h hq => ?_, fun S Q h hq => ?_⟩
    · rw [tq_X6_alike]; unfold sm_X6_alike_0
      rw [c_v, e_C2g h.1.2 h.1.1, e1, e2, if_neg (by decide), if_neg (by decide), if_neg hne]
      simp only [sr_I]
      rw [if_pos (by decide), c_7, f_v]
      refine i_mayChange h.1.2 h.1.1 hi hj ?_
      simp only [sr_I]
      have := hq S (Fc.rf S) h
      rw [b01 _ (P := fun v => Q (some (.int v)) (hp S))]
      exact this
    · rw [tq_X7_alike]; unfold sm_X7_alike_0
      rw [m_v, e_MisGate h.1, e1]
      simp only [sr_I]
      rw [if_neg (by decide), m_v, e_MisGate h.1, e2]
      simp only [sr_I]
      rw [if_neg (by decide), if_pos hne, m_v]
      refine i_layRuns h wf (fun S1 f1 h1 t1 _ _ => ?_)
      simp only [sr_V]
      rw [m_v]
      refine i_try h1 wf (fun S2 y2 => ?_)
      simp only [sr_V]
      rw [hv_O k58 (by decide)]
      refine i_swapTry y2 hi hj hij hn (fun S3 y3 => ?_)
      simp only [sr_V]
      rw [m_v]
      have h3 := y3.1.mi h1 wf
      refine i_isSame h3 wf y3.2 (mvB_ok wf.1 hi hj).2.2.2.2.2 (y3.1.tb t1) ?_
      simp only [sr_I]
      have := hq S3 (f1.tr y3.1.fm) h3
      rw [b01 _ (P := fun v => Q (some (.int v)) (hp S3))]
      exact this
  · refine Op.same (-1) (fun S Q h hq => ?_) (fun S Q h hq => ?_)
    · rw [tq_X6_alike]; unfold sm_X6_alike_0
      rw [c_v, e_C2g h.1.2 h.1.1, e]
      simp only [sr_I]
      rw [if_neg (by decide)]
      exact hq
    · rw [tq_X7_alike]; unfold sm_X7_alike_0
      rw [m_v, e_MisGate h.1]
      simp only [sr_I]
      split
      · exact hq
      rename_i c1
      rw [m_v, e_MisGate h.1]
      simp only [sr_I]
      split
      · exact hq
      rename_i c2
      split
      · rename_i c3
        exfalso
        rcases hc with q | q | q
        · exact c1 q
        · exact c2 q
        · exact c3 q
      · exact hq
