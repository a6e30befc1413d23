/-! came -/
def tlb (f : Nat → Int64) (R : Nat → Nat) (a s n : Nat) : Bool := decide (∀ t, t < n → f (a + t) = Int32.toInt64 (nI (R (s + t))))
theorem tlb_t {f : Nat → Int64} {R : Nat → Nat} {a s n : Nat} : tlb f R a s n = true ↔ ∀ t, t < n → f (a + t) = Int32.toInt64 (nI (R (s + t))) := by simp [tlb]
theorem tlb_f {f : Nat → Int64} {R : Nat → Nat} {a s n : Nat} (t : Nat) (ht : t < n) (h : ¬ f (a + t) = Int32.toInt64 (nI (R (s + t)))) : tlb f R a s n = false := by
  cases e : tlb f R a s n
  · rfl
  · exact absurd (tlb_t.mp e t ht) h
theorem s_l {S : st_S} {k n : Nat} (hk : k < 4) (h : n < 24) {K : Int64 → Prop} : sa_L (hp S) (51 + 2 * k) (nI n) K = K (S.2.2 (51 + 2 * k) n) := by
  rw [ha_L (s_k k hk).2.1, (s_k k hk).2.2, cl (by omega)]
  exact propext ⟨fun q => q.2, fun q => ⟨vi h (by omega), q⟩⟩
theorem i_tells {S : st_S} {B : bd} (hB : Bo S 1 B) (ok : Bok B) {k la sz : Nat} {f : Nat → Int64} (hk : k < 4) (ho : Ho S k (some (la, sz, f))) {a s n i : Nat} {g0 : gt} (han : a + n ≤ sz) (hsn : s + n ≤ 2 ^ bW B) (hi : i < 16) (hg0 : gokw (bW B) g0) {Q : aw_R} (hq : Q (some (.int (if tlb f (grun (gput (bG B) i g0) (bN B)) a s n then 1 else 0))) (hp S)) : tr_X1_tellsOf [.ref 45, .ref (50 + 2 * k), .int (nI a), .int (nI s), .int (nI n), .int (nI i), .int (nI (gpk g0))] (hp S) Q := by
  rw [tq_X1_tellsOf]
  intro K3 r3
  obtain ⟨a1, a2, a3, a4, a5, a6⟩ := ho
  have hw := pw_le ok.1.2
  have main : ∀ m t, t + m = n → (∀ u, u < t → f (a + u) = Int32.toInt64 (nI (grun (gput (bG B) i g0) (bN B) (s + u)))) → K3 45 (50 + 2 * k) (nI a) (nI s) (nI n) (nI i) (nI (gpk g0)) (nI t) (hp S) := by
    intro m
    induction m with
    | zero =>
      intro t e ht
      apply r3
      unfold sm_X1_tellsOf_3
      rw [if_pos (nI_le (by omega) (by omega))]
      rw [tlb_t.mpr (fun u hu => ht u (by omega)), if_pos rfl] at hq
      exact hq
    | succ m ih =>
      intro t e ht
      apply r3
      unfold sm_X1_tellsOf_3
      rw [if_neg (nI_ge (by omega) (by omega)), s_3 hk, nI_add, s_l hk (by omega), a6 _ (by omega), f_0, b_v, nI_add]
      refine i_runWithw k1 hB ok (show s + t < 64 by omega) hi hg0 ?_
      simp only [sr_I]
      rw [nI_1]
      by_cases hc : f (a + t) = Int32.toInt64 (nI (grun (gput (bG B) i g0) (bN B) (s + t)))
      · rw [if_pos ((lg_cmp_eq _ _).mpr hc)]
        exact ih (t + 1) (by omega) (fun u hu => by
          by_cases hut : u = t
          · rw [hut]; exact hc
          · exact ht u (by omega))
      · rw [if_neg (fun q => hc ((lg_cmp_eq _ _).mp q))]
        rw [tlb_f t (by omega) hc] at hq
        exact hq
  exact main n 0 (by omega) (fun u hu => absurd hu (Nat.not_lt_zero u))
theorem i_told {S : st_S} {σ : sg} (hm : MI S σ) (wf : Wf σ) {γ : Nat → gt} (hR : Rg S 1532 (bN σ.1) γ) (hg : ∀ g, g < bN σ.1 → gokw (bW σ.1) (γ g)) {k la sz : Nat} {f : Nat → Int64} (hk : k < 4) (ho : Hm S k (some (la, sz, f))) (hz : sz ≤ 24) {a s n : Nat} (han : a + n ≤ sz) (hsn : s + n ≤ 2 ^ bW σ.1) {Q : aw_R} (hq : Q (some (.int (if tlb f (grun γ (bN σ.1)) a s n then 1 else 0))) (hp S)) : tr_X7_isToldIn [.ref 58, .int 1532, .int (nI s), .int (nI k), .int (nI a), .int (nI n)] (hp S) Q := by
  rw [tq_X7_isToldIn]
  intro K6 r6
  obtain ⟨b1, b2, b3⟩ := ho
  have hw := pw_le wf.1.1.2
  have main : ∀ m t, t + m = n → (∀ u, u < t → f (a + u) = Int32.toInt64 (nI (grun γ (bN σ.1) (s + u)))) → K6 58 1532 (nI s) (nI k) (nI a) (nI n) 1 (nI t) (hp S) := by
    intro m
    induction m with
    | zero =>
      intro t e ht
      apply r6
      unfold sm_X7_isToldIn_6
      rw [if_pos (nI_le (by omega) (by omega))]
      rw [tlb_t.mpr (fun u hu => ht u (by omega)), if_pos rfl] at hq
      exact ⟨by simp, hq⟩
    | succ m ih =>
      intro t e ht
      apply r6
      unfold sm_X7_isToldIn_6
      rw [if_neg (nI_ge (by omega) (by omega)), if_neg (by decide), m_v, nI_add]
      refine i_MrunInw (x := 1532) (w := bW σ.1) hR hm.1.2.1 wf.1.2.1 hg wf.1.1.2 (show s + t < 64 by omega) (by omega) ?_
      simp only [sr_I]
      rw [m_4, nI_d, nI_add, m_lr (by omega), show 24 * k + a + t = 24 * k + (a + t) by omega, b3 _ (by omega), nI_1]
      by_cases hc : f (a + t) = Int32.toInt64 (nI (grun γ (bN σ.1) (s + t)))
      · rw [if_neg (fun q => q ((lg_cmp_eq _ _).mpr hc.symm))]
        exact ih (t + 1) (by omega) (fun u hu => by
          by_cases hut : u = t
          · rw [hut]; exact hc
          · exact ht u (by omega))
      · rw [if_pos (fun q => hc ((lg_cmp_eq _ _).mp q).symm)]
        rw [tlb_f t (by omega) hc] at hq
        apply r6
        unfold sm_X7_isToldIn_6
        split
        · exact ⟨by simp, hq⟩
        · rw [if_pos rfl]
          exact ⟨by simp, hq⟩
  exact main n 0 (by omega) (fun u hu => absurd hu (Nat.not_lt_zero u))
/-- which deaths tell it -/
def dth (B : bd) (f : Nat → Int64) (a s n : Nat) : Nat → Bool := fun g => tlb f (grun (gkl (bG B) g) (bN B)) a s n
theorem bs_step {p : Nat → Bool} {g : Nat} (h : p g = true) : nI (bs p g) ||| nI (2 ^ g) = nI (bs p (g + 1)) := by
  rw [or_pow (bs_lt p g)]
  show _ = nI (bs p g + (if p g then 2 ^ g else 0))
  rw [if_pos h]
theorem bs_skip {p : Nat → Bool} {g : Nat} (h : p g = false) : bs p (g + 1) = bs p g := by
  show bs p g + (if p g then 2 ^ g else 0) = _
  rw [h]
  rfl
theorem i_deathsC {S : st_S} {B : bd} (hB : Bo S 1 B) (ok : Bok B) {k la sz : Nat} {f : Nat → Int64} (hk : k < 4) (ho : Ho S k (some (la, sz, f))) {a s n : Nat} (han : a + n ≤ sz) (hsn : s + n ≤ 2 ^ bW B) {Q : aw_R} (hq : Q (some (.int (nI (bs (dth B f a s n) (bN B))))) (hp S)) : tr_X1_deathsBy [.ref 45, .ref (50 + 2 * k), .int (nI a), .int (nI s), .int (nI n)] (hp S) Q := by
  rw [tq_X1_deathsBy]
  intro K6 r6
  have hn := ok.2.1
  have main : ∀ m g, g + m = bN B → K6 45 (50 + 2 * k) (nI a) (nI s) (nI n) (nI (bs (dth B f a s n) g)) (nI g) (hp S) := by
    intro m
    induction m with
    | zero =>
      intro g e
      apply r6
      unfold sm_X1_deathsBy_6
      rw [f_0, hq_I (k := 1) k1 rfl, hB.2.1, if_pos (nI_le (by omega) (by omega)), show g = bN B by omega]
      exact hq
    | succ m ih =>
      intro g e
      apply r6
      unfold sm_X1_deathsBy_6
      have gg := ok.2.2.2.2.2 g (by omega)
      have ih' := ih (g + 1) (by omega)
      rw [f_0, hq_I (k := 1) k1 rfl, hB.2.1, if_neg (nI_ge (by omega) (by omega)), f_0, b_2, g_r (by omega), hB.2.2.2.2.2 g (by omega), e_killed, gkill ok.1.2 gg]
      simp only [sr_I]
      rw [f_v]
      refine i_tells hB ok hk ho han hsn (by omega) (gdd_ok gg (by omega)).w ?_
      simp only [sr_I]
      rw [nI_1, shl1 g (by omega)]
      cases hc : dth B f a s n g
      · have hc' : tlb f (grun (gput (bG B) g (gdd (bG B g) 1)) (bN B)) a s n = false := hc
        rw [bs_skip hc] at ih'
        rw [hc', if_pos (by decide)]
        exact ih'
      · have hc' : tlb f (grun (gput (bG B) g (gdd (bG B g) 1)) (bN B)) a s n = true := hc
        rw [hc', if_neg (by decide), bs_step hc]
        exact ih'
  exact main (bN B) 0 (by omega)
theorem Te.hm {S S1 : st_S} (h : Te S S1) {k : Nat} {x : shs} (ho : Hm S k x) : Hm S1 k x := by
  unfold Hm at ho ⊢
  rw [h.t (q := 63) (by omega), h.t (q := 62) (by omega), h.l]
  exact ho
theorem i_deathsM {S : st_S} {σ : sg} (hm : MI S σ) (wf : Wf σ) {k la sz : Nat} {f : Nat → Int64} (hk : k < 4) (ho : Hm S k (some (la, sz, f))) (hz : sz ≤ 24) {a s n : Nat} (han : a + n ≤ sz) (hsn : s + n ≤ 2 ^ bW σ.1) {Q : aw_R} (hq : ∀ S', Te S S' → Q (some (.int (nI (bs (dth σ.1 f a s n) (bN σ.1))))) (hp S')) : tr_X7_deaths [.ref 58, .int (nI s), .int (nI k), .int (nI a), .int (nI n)] (hp S) Q := by
  rw [tq_X7_deaths]
  intro K6 r6
  have ok := wf.1
  have hn := ok.2.1
  have w1 : ∀ {S2 K}, Te S S2 → sa_I (hp S2) 59 1 K = K (nI (bN σ.1)) := fun {S2 K} t => by
    rw [show (sa_I (hp S2) 59 1 K) = _ from m_wn (n := 1) (by omega), show S2.2.1 59 1 = nI (bN σ.1) from (t.mi hm wf).1.2.1]
  have main : ∀ m g S1, g + m = bN σ.1 → Te S S1 → K6 58 (nI s) (nI k) (nI a) (nI n) (nI (bs (dth σ.1 f a s n) g)) (nI g) (hp S1) := by
    intro m
    induction m with
    | zero =>
      intro g S1 e t1
      apply r6
      unfold sm_X7_deaths_6
      rw [m_0, w1 t1, if_pos (nI_le (by omega) (by omega)), show g = bN σ.1 by omega]
      exact hq S1 t1
    | succ m ih =>
      intro g S1 e t1
      apply r6
      unfold sm_X7_deaths_6
      rw [m_0, w1 t1, if_neg (nI_ge (by omega) (by omega)), m_v]
      refine i_try (t1.mi hm wf) wf (fun S2 y2 => ?_)
      simp only [sr_V]
      rw [hv_O k58 (by decide)]
      refine i_killIn y2 (show g < bN σ.1 by omega) hn (fun S3 y3 => ?_)
      simp only [sr_V]
      rw [m_v]
      have t3 := t1.tr y3.1
      refine i_told (t3.mi hm wf) wf y3.2 (fun g' h' => (gkl_ok ok.2.2.2.2.2 (by omega) g' h').w) hk (t3.hm ho) hz han hsn ?_
      simp only [sr_I]
      have ih' := ih (g + 1) S3 (by omega) t3
      rw [nI_1, shl1 g (by omega), or_0]
      cases hc : dth σ.1 f a s n g
      · have hc' : tlb f (grun (gkl (bG σ.1) g) (bN σ.1)) a s n = false := hc
        rw [bs_skip hc] at ih'
        rw [hc', if_pos (by decide)]
        exact ih'
      · have hc' : tlb f (grun (gkl (bG σ.1) g) (bN σ.1)) a s n = true := hc
        rw [hc', if_neg (by decide), bs_step hc]
        exact ih'
  exact main (bN σ.1) 0 S (by omega) (Te.rf S)
/-- which kinds tell it -/
def gkd (g : gt) (k : Nat) : gt := (k, g.2.1, g.2.2.1, g.2.2.2.1, g.2.2.2.2)
def knd (B : bd) (f : Nat → Int64) (a s n i : Nat) : Nat → Bool := fun k => gun k (bG B i).2.1 (bG B i).2.2.1 (bG B i).2.2.2.1 && tlb f (grun (gput (bG B) i (gkd (bG B i) k)) (bN B)) a s n
theorem gkd_ok {w : Nat} {g : gt} (h : gok w g) {k : Nat} (hk : k < 5) (hu : gun k g.2.1 g.2.2.1 g.2.2.2.1 = true) : gokw w (gkd g k) := by
  unfold gun at hu
  simp at hu
  refine ⟨hk, h.2.1, h.2.2.1, h.2.2.2.1, h.2.2.2.2.1, fun q => ?_, fun q => ?_, trivial⟩
  · rcases hu.1 with q1 | q1
    · have q : 1 ≤ k := q
      omega
    · exact q1
  · rcases hu.2 with q1 | q1
    · have q : 3 ≤ k := q
      omega
    · exact q1
theorem ask_1 : ∀ k, k < 5 → ∀ r, r < 1024 → (nI (k + 8 * r) &&& (-8)) = nI (8 * r) := by decide +kernel
theorem gask {w : Nat} {g : gt} (hw : w ≤ 6) (h : gok w g) {k : Nat} (hk : k < 5) : ((nI (gpk g) &&& (-8)) ||| nI k) = nI (gpk (gkd g k)) := by
  obtain ⟨h1, h2, h3, h4, h5, -⟩ := h
  have e1 : gpk g = g.1 + 8 * (g.2.1 + 8 * g.2.2.1 + 64 * g.2.2.2.1 + 512 * g.2.2.2.2) := by unfold gpk; omega
  have e2 : gpk (gkd g k) = 2 ^ 3 * (g.2.1 + 8 * g.2.2.1 + 64 * g.2.2.2.1 + 512 * g.2.2.2.2) + k := by unfold gpk gkd; dsimp only; omega
  rw [e1, ask_1 _ h1 _ (by omega), e2, ← fa_or_sum (k := 3) _ (by omega)]
theorem gput_w {w n : Nat} {γ : Nat → gt} (h : ∀ g, g < n → gok w (γ g)) {i : Nat} {g0 : gt} (hg : gokw w g0) : ∀ g, g < n → gokw w (gput γ i g0 g) := by
  intro g hgn
  unfold gput
  split
  · exact hg
  · exact (h g hgn).w
theorem i_kindsC {S : st_S} {B : bd} (hB : Bo S 1 B) (ok : Bok B) {k la sz : Nat} {f : Nat → Int64} (hk : k < 4) (ho : Ho S k (some (la, sz, f))) {a s n i : Nat} (han : a + n ≤ sz) (hsn : s + n ≤ 2 ^ bW B) (hi : i < bN B) {Q : aw_R} (hq : Q (some (.int (nI (bs (knd B f a s n i) 5)))) (hp S)) : tr_X1_kindsBy [.ref 45, .ref (50 + 2 * k), .int (nI a), .int (nI s), .int (nI n), .int (nI i)] (hp S) Q := by
  rw [tq_X1_kindsBy]
  intro K42 r42
  have hn := ok.2.1
  have hw6 := ok.1.2
  have hg := ok.2.2.2.2.2 i hi
  have ha : (bG B i).2.1 < 6 := by have := hg.2.1; omega
  have hb : (bG B i).2.2.1 < 6 := by have := hg.2.2.1; omega
  have hc : (bG B i).2.2.2.1 < 6 := by have := hg.2.2.2.1; omega
  have main : ∀ m j, j + m = 5 → K42 45 (50 + 2 * k) (nI a) (nI s) (nI n) (nI i) (nI (gpk (bG B i))) (nI (bG B i).2.1) (nI (bG B i).2.2.1) (nI (bG B i).2.2.2.1) (nI (bs (knd B f a s n i) j)) (nI j) (hp S) := by
    intro m
    induction m with
    | zero =>
      intro j e
      apply r42
      unfold sm_X1_kindsBy_42
      rw [if_pos (show (5 : Int32) ≤ nI j from nI_le (a := 5) (by omega) (by omega)), show j = 5 by omega]
      exact hq
    | succ m ih =>
      intro j e
      apply r42
      unfold sm_X1_kindsBy_42
      have ih' := ih (j + 1) (by omega)
      rw [if_neg (show ¬ (5 : Int32) ≤ nI j from nI_ge (b := 5) (by omega) (by omega)), e_CareUnlike (by omega) ha hb hc]
      simp only [sr_I]
      rw [nI_1, shl1 j (by omega)]
      cases hu : gun j (bG B i).2.1 (bG B i).2.2.1 (bG B i).2.2.2.1
      · have hkn : knd B f a s n i j = false := by simp [knd, hu]
        rw [bs_skip hkn] at ih'
        rw [if_pos (by decide)]
        exact ih'
      · rw [if_neg (by decide), e_asKind, gask hw6 hg (show j < 5 by omega)]
        simp only [sr_I]
        rw [f_v]
        refine i_tells hB ok hk ho han hsn (by omega) (gkd_ok hg (by omega) hu) ?_
        simp only [sr_I]
        cases ht : tlb f (grun (gput (bG B) i (gkd (bG B i) j)) (bN B)) a s n
        · have hkn : knd B f a s n i j = false := by simp [knd, ht]
          rw [bs_skip hkn] at ih'
          rw [if_pos (by decide)]
          exact ih'
        · have hkn : knd B f a s n i j = true := by simp [knd, ht, hu]
          rw [if_neg (by decide), bs_step hkn]
          exact ih'
  unfold sm_X1_kindsBy_0
  have fa := gx_a _ hg.1 _ ha _ hb _ hc _ hg.2.2.2.2.1
  have fb := gx_b _ hg.1 _ ha _ hb _ hc _ hg.2.2.2.2.1
  have fc := gx_c _ hg.1 _ ha _ hb _ hc _ hg.2.2.2.2.1
  rw [f_0, b_2, g_r (by omega), hB.2.2.2.2.2 i hi, e_wireAt]
  simp only [sr_I]
  rw [e_wireAt]
  simp only [sr_I]
  rw [e_wireAt]
  simp only [sr_I]
  rw [show (nI (gpk (bG B i)) >>> ((3 + 3 * (0 : Int32)) &&& 31)) &&& 7 = _ from fa, show (nI (gpk (bG B i)) >>> ((3 + 3 * (1 : Int32)) &&& 31)) &&& 7 = _ from fb, show (nI (gpk (bG B i)) >>> ((3 + 3 * (2 : Int32)) &&& 31)) &&& 7 = _ from fc]
  exact main 5 0 (by omega)
theorem i_kindsM {S : st_S} {σ : sg} (hm : MI S σ) (wf : Wf σ) {k la sz : Nat} {f : Nat → Int64} (hk : k < 4) (ho : Hm S k (some (la, sz, f))) (hz : sz ≤ 24) {a s n i : Nat} (han : a + n ≤ sz) (hsn : s + n ≤ 2 ^ bW σ.1) (hi : i < bN σ.1) {Q : aw_R} (hq : ∀ S', Te S S' → Q (some (.int (nI (bs (knd σ.1 f a s n i) 5)))) (hp S')) : tr_X7_kinds [.ref 58, .int (nI i), .int (nI s), .int (nI k), .int (nI a), .int (nI n)] (hp S) Q := by
  rw [tq_X7_kinds]
  intro K13 r13
  have ok := wf.1
  have hn := ok.2.1
  have hw6 := ok.1.2
  have hg := ok.2.2.2.2.2 i hi
  have ha : (bG σ.1 i).2.1 < 6 := by have := hg.2.1; omega
  have hb : (bG σ.1 i).2.2.1 < 6 := by have := hg.2.2.1; omega
  have hc : (bG σ.1 i).2.2.2.1 < 6 := by have := hg.2.2.2.1; omega
  have main : ∀ m j S1, j + m = 5 → Te S S1 → K13 58 (nI s) (nI k) (nI a) (nI n) (nI (bs (knd σ.1 f a s n i) j)) (nI (5 + 5 * i)) (nI j) (hp S1) := by
    intro m
    induction m with
    | zero =>
      intro j S1 e t1
      apply r13
      unfold sm_X7_kinds_13
      rw [if_pos (show (5 : Int32) ≤ nI j from nI_le (a := 5) (by omega) (by omega)), show j = 5 by omega]
      exact hq S1 t1
    | succ m ih =>
      intro j S1 e t1
      apply r13
      unfold sm_X7_kinds_13
      rw [if_neg (show ¬ (5 : Int32) ≤ nI j from nI_ge (b := 5) (by omega) (by omega)), m_v]
      have h1 := t1.mi hm wf
      refine i_try h1 wf (fun S2 y2 => ?_)
      simp only [sr_V]
      have h0 := y2.2 i hi
      rw [m_0, show (1532 : Int32) + nI (5 + 5 * i) = nI (1532 + 5 + 5 * i) by rw [show (1532 : Int32) = nI 1532 from rfl, nI_add, show 1532 + (5 + 5 * i) = 1532 + 5 + 5 * i by omega], m_wsn (by omega), sA_F]
      have y3 : Ty S1 (sF S2 59 (upd (S2.2.1 59) (1532 + 5 + 5 * i) (nI j))) (bN σ.1) (gput (bG σ.1) i (gkd (bG σ.1 i) j)) := y2.set (fun q hq' => pk_un (by omega)) ⟨pk_us, by rw [pk_un (by omega)]; exact h0.2.1, by rw [pk_un (by omega)]; exact h0.2.2.1, by rw [pk_un (by omega)]; exact h0.2.2.2.1, by rw [pk_un (by omega)]; exact h0.2.2.2.2⟩ (fun g hgi q hq' => pk_un (by omega))
      generalize sF S2 59 (upd (S2.2.1 59) (1532 + 5 + 5 * i) (nI j)) = S3 at *
      have t3 := t1.tr y3.1
      have h3 := t3.mi hm wf
      have g3 := h3.1.2.2.2.2.2 i hi
      rw [e_MwiresOf, gwo_m j (by omega)]
      simp only [sr_I]
      rw [m_0, nI_1, m_wn (by omega), show S3.2.1 59 (5 + 5 * i + 1) = nI (bG σ.1 i).2.1 from by rw [← g3.2.1, show 0 + 5 + 5 * i + 1 = 5 + 5 * i + 1 by omega], m_0, show nI (5 + 5 * i) + 2 = nI (5 + 5 * i + 2) from nI_add _ 2, m_wn (by omega), show S3.2.1 59 (5 + 5 * i + 2) = nI (bG σ.1 i).2.2.1 from by rw [← g3.2.2.1, show 0 + 5 + 5 * i + 2 = 5 + 5 * i + 2 by omega], m_0, show nI (5 + 5 * i) + 3 = nI (5 + 5 * i + 3) from nI_add _ 3, m_wn (by omega), show S3.2.1 59 (5 + 5 * i + 3) = nI (bG σ.1 i).2.2.2.1 from by rw [← g3.2.2.2.1, show 0 + 5 + 5 * i + 3 = 5 + 5 * i + 3 by omega], e_MareUnlike (by omega) ha hb hc]
      simp only [sr_I]
      have ih' := ih (j + 1) S3 (by omega) t3
      rw [nI_1, shl1 j (by omega), or_0]
      cases hu : gun j (bG σ.1 i).2.1 (bG σ.1 i).2.2.1 (bG σ.1 i).2.2.2.1
      · have hkn : knd σ.1 f a s n i j = false := by simp [knd, hu]
        rw [bs_skip hkn] at ih'
        rw [if_pos (by decide)]
        exact ih'
      · rw [if_neg (by decide), m_v]
        refine i_told h3 wf y3.2 (gput_w ok.2.2.2.2.2 (gkd_ok hg (by omega) hu)) hk (t3.hm ho) hz han hsn ?_
        simp only [sr_I]
        cases ht : tlb f (grun (gput (bG σ.1) i (gkd (bG σ.1 i) j)) (bN σ.1)) a s n
        · have hkn : knd σ.1 f a s n i j = false := by simp [knd, ht]
          rw [bs_skip hkn] at ih'
          rw [if_pos (by decide)]
          exact ih'
        · have hkn : knd σ.1 f a s n i j = true := by simp [knd, ht, hu]
          rw [if_neg (by decide), bs_step hkn]
          exact ih'
  unfold sm_X7_kinds_0
  rw [show (5 : Int32) + 5 * nI i = nI (5 + 5 * i) by rw [show (5 : Int32) = nI 5 from rfl, pk_mul, nI_add]]
  exact main 5 0 S (by omega) (Te.rf S)
/-- behind how many runs -/
def upa (P : Nat → Bool) : Nat → Nat → Int32
  | 0, _ => -4
  | m + 1, r => if P r then nI r else upa P m (r + 1)
def ups (B : bd) (f : Nat → Int64) (a s n : Nat) : Nat → Bool := fun r => tlb f (itr (rn B) r) a s n
