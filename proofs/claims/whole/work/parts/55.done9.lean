/-! type, count; scratch; runs as a table; ring, far -/
theorem MI.scr {S S' : st_S} {σ : sg} (h : MI S σ) (wf : Wf σ) (hf : ∀ k, k < 1532 → S'.2.1 59 k = S.2.1 59 k) (h1 : S'.1 58 1 = S.1 58 1) (h3 : S'.1 58 3 = S.1 58 3) (h60 : S'.2.1 60 = S.2.1 60) (h61 : S'.2.2 61 = S.2.2 61) (h62 : S'.2.1 62 = S.2.1 62) (h63 : S'.2.1 63 = S.2.1 63) : MI S' σ := by
  have := wf.1.2.1
  refine h.upd (B := σ.1) (l := σ.2.1) wf (fun k _ h2 => hf k h2) h1 h3 h60 h61 h62 h63 ?_ ?_
  · exact wrow.at (f := S.2.1 59) (f' := S'.2.1 59) h.1 wf.1.2.1 (fun k hk => hf _ (by omega))
  · obtain ⟨a, c, d⟩ := h.2.1
    refine ⟨a, by rw [hf _ (by omega)]; exact c, fun j C hj => ?_⟩
    have hjl : j < σ.2.1.length := (List.getElem?_eq_some_iff.mp hj).1
    exact wrow.at (f := S.2.1 59) (f' := S'.2.1 59) (d j C hj) (wf.2.2.1 j C hj).2.1 (fun k hk => hf _ (by omega))
theorem MI.t {S : st_S} {σ : sg} (h : MI S σ) (wf : Wf σ) {p : Nat} {f : Nat → Int32} (hp : 64 ≤ p) : MI (sF S p f) σ := h.scr wf (fun k _ => by rw [sF_ne _ _ (by omega)]) rfl rfl (by rw [sF_ne _ _ (by omega)]) rfl (by rw [sF_ne _ _ (by omega)]) (by rw [sF_ne _ _ (by omega)])
theorem CI.scr {S S' : st_S} {σ : sg} (h : CI S σ) (hs : ∀ q, (q < 43 ∨ 49 < q) → q < 58 → Sa S S' q) : CI S' σ := by
  obtain ⟨h1, h2, h3, h4, h5⟩ := h
  refine ⟨⟨h1.1, h1.2.kept (hs _ (by decide) (by decide)) (hs _ (by decide) (by decide))⟩, h2.kept (fun q _ h => hs q (by omega) (by omega)), ?_, ?_, ?_⟩
  · have f0 := hs 0 (by decide) (by decide)
    split
    · rename_i e
      rw [e] at h3
      rw [f0.1]
      exact h3
    · rename_i b l e
      rw [e] at h3
      rw [f0.1]
      exact ⟨h3.1, ⟨h3.2.1.1, h3.2.1.2.kept (hs _ (by decide) (by decide)) (hs _ (by decide) (by decide))⟩, h3.2.2.kept (fun q _ h => hs q (by omega) (by omega))⟩
  · unfold To
    rw [(hs 41 (by decide) (by decide)).1, (hs 42 (by decide) (by decide)).2.1]
    exact h4
  · intro i hi
    exact (h5 i hi).kept (hs _ (by omega) (by omega)) (hs _ (by omega) (by omega))
/-- only Foretold's own rows changed -/
theorem CI.fo {S S' : st_S} {σ : sg} (h : CI S σ) (hs : Sx [45, 46, 47, 48] S S') : CI S' σ := h.scr (fun q h1 h2 => hs q (by simp; omega))
theorem fo_fc {S S' : st_S} (hs : Sx [45, 46, 47, 48] S S') : Fc S S' := hs.fc (by simp)
/-- a run -/
abbrev rn (B : bd) : Nat → Nat := grun (bG B) (bN B)
theorem rn_w {B : bd} (ok : Bok B) {s : Nat} (hs : s < 2 ^ bW B) : rn B s < 2 ^ bW B := grun_w ok.2.2.2.2.2 hs
theorem rn_64 {B : bd} (ok : Bok B) {s : Nat} (hs : s < 2 ^ bW B) : s < 64 := by have := pw_le ok.1.2; omega
def tbl (S : st_S) (p : Nat) (B : bd) : Prop := ∀ s, s < 2 ^ bW B → S.2.1 p s = nI (rn B s)
theorem t_r {S : st_S} {n : Nat} (h : n < 64) {K : Int32 → Prop} : sa_I (hp S) 64 (nI n) K = K (S.2.1 64 n) := by
  rw [ha_I (p := 64) rfl, cl (by omega)]
  exact propext ⟨fun q => q.2, fun q => ⟨vi (show n < ln 64 from h) (by decide), q⟩⟩
theorem t_s {S : st_S} {n : Nat} (h : n < 64) {x : Int32} {K : aw_H → Prop} : ss_I (hp S) 64 (nI n) x K = K (hp (sA S 64 n x)) := by
  rw [hs_I (p := 64) rfl, cl (by omega)]
  exact propext ⟨fun q => q.2, fun q => ⟨vi (show n < ln 64 from h) (by decide), q⟩⟩
theorem e_Mrun0 {S : st_S} {B : bd} (hB : Br S 0 B) (ok : Bok B) {s : Nat} (hs : s < 64) {Q : aw_R} (hq : Q (some (.int (nI (rn B s)))) (hp S)) : tr_X7_runIn [.ref 58, .int 0, .int (nI s)] (hp S) Q := i_MrunIn (x := 0) hB.g hB.2.1 ok.2.1 ok.2.2.2.2.2 ok.1.2 hs (by omega) hq
theorem i_layRuns {S : st_S} {σ : sg} (h : MI S σ) (wf : Wf σ) {Q : aw_R} (hq : ∀ S', Fm S S' → MI S' σ → tbl S' 64 σ.1 → S'.2.1 59 = S.2.1 59 → S'.2.2 = S.2.2 → Q none (hp S')) : tr_X7_layRuns [.ref 58] (hp S) Q := by
  rw [tq_X7_layRuns]
  intro K2 r2
  have hw := pw_le wf.1.1.2
  have main : ∀ m s, s + m = 2 ^ bW σ.1 → K2 58 (nI s) (hp (sF S 64 (fa_fill (fun k => nI (rn σ.1 k)) (S.2.1 64) s))) := by
    intro m
    induction m with
    | zero =>
      intro s e
      apply r2
      unfold sm_X7_layRuns_2
      have h' := h.t wf (p := 64) (f := fa_fill (fun k => nI (rn σ.1 k)) (S.2.1 64) s) (by omega)
      rw [m_v, e_Mstates h'.1 wf.1]
      simp only [sr_I]
      rw [if_pos (nI_le (by omega) (by omega))]
      exact hq _ (Fm.F (by omega)) h' (fun k hk => by rw [sF_at]; exact fa_fill_in (by omega)) (sF_ne _ _ (by omega)) rfl
    | succ m ih =>
      intro s e
      apply r2
      unfold sm_X7_layRuns_2
      have h' := h.t wf (p := 64) (f := fa_fill (fun k => nI (rn σ.1 k)) (S.2.1 64) s) (by omega)
      rw [m_v, e_Mstates h'.1 wf.1]
      simp only [sr_I]
      rw [if_neg (nI_ge (by omega) (by omega)), m_7, m_v]
      refine e_Mrun0 h'.1 wf.1 (by omega) ?_
      simp only [sr_I]
      rw [t_s (by omega), sA_F, sF_at, sF_F, nI_1, fa_fill_succ (fun k => nI (rn σ.1 k)) (S.2.1 64) s]
      exact ih (s + 1) (by omega)
  have := main (2 ^ bW σ.1) 0 (by omega)
  rw [fa_fill_0, sF_self] at this
  exact this
/-- again and again -/
def itr (f : Nat → Nat) : Nat → Nat → Nat
  | 0, s => s
  | n + 1, s => f (itr f n s)
theorem itr_in (f : Nat → Nat) : ∀ (n : Nat) (s : Nat), itr f (n + 1) s = itr f n (f s)
  | 0, _ => rfl
  | n + 1, s => by
    show f (itr f (n + 1) s) = f (itr f n (f s))
    rw [itr_in f n s]
theorem itr_add (f : Nat → Nat) (a s : Nat) : ∀ (b : Nat), itr f (a + b) s = itr f b (itr f a s)
  | 0 => rfl
  | b + 1 => by
    show f (itr f (a + b) s) = f (itr f b (itr f a s))
    rw [itr_add f a s b]
theorem itr_lt {f : Nat → Nat} {N : Nat} (hf : ∀ s, s < N → f s < N) {s : Nat} (hs : s < N) : ∀ (n : Nat), itr f n s < N
  | 0 => hs
  | n + 1 => hf _ (itr_lt hf hs n)
/-- nothing is lost -/
def inj (f : Nat → Nat) (N : Nat) : Prop := (∀ s, s < N → f s < N) ∧ ∀ s t, s < N → t < N → f s = f t → s = t
theorem itr_inj {f : Nat → Nat} {N : Nat} (hf : inj f N) : ∀ (n s t : Nat), s < N → t < N → itr f n s = itr f n t → s = t
  | 0, _, _, _, _, e => e
  | n + 1, s, t, hs, ht, e => itr_inj hf n s t hs ht (hf.2 _ _ (itr_lt hf.1 hs n) (itr_lt hf.1 ht n) e)
/-- how long the ring of s is -/
def rlen (f : Nat → Nat) (N s : Nat) : Nat := fa_first (fun k => itr f (k + 1) s == s) N + 1
theorem rlen_ex {f : Nat → Nat} {N s : Nat} (hf : inj f N) (hs : s < N) : ∃ k, k < N ∧ itr f (k + 1) s = s := by
  obtain ⟨i, j, hij, hj, e⟩ := fb_twice (m := N) (n := N + 1) (f := fun i => itr f i s) (fun i _ => itr_lt hf.1 hs i) (by omega)
  refine ⟨j - i - 1, by omega, ?_⟩
  have e' : itr f i s = itr f j s := e
  rw [show j = (j - i) + i by omega, itr_add] at e'
  rw [show j - i - 1 + 1 = j - i by omega]
  exact (itr_inj hf i s _ hs (itr_lt hf.1 hs _) e').symm
theorem rlen_le {f : Nat → Nat} {N s : Nat} (hf : inj f N) (hs : s < N) : rlen f N s ≤ N ∧ itr f (rlen f N s) s = s := by
  obtain ⟨k, hk, e⟩ := rlen_ex hf hs
  have h1 : fa_first (fun k => itr f (k + 1) s == s) N < N := by
    apply Decidable.byContradiction
    intro q
    have := fa_first_no (fun k => itr f (k + 1) s == s) N k (by omega)
    simp [e] at this
  have h2 := fa_first_yes (fun k => itr f (k + 1) s == s) N h1
  exact ⟨by unfold rlen; omega, by unfold rlen; simpa using h2⟩
theorem rlen_min {f : Nat → Nat} {N s j : Nat} (h0 : 0 < j) (h : j < rlen f N s) : itr f j s ≠ s := by
  have := fa_first_no (fun k => itr f (k + 1) s == s) N (j - 1) (by unfold rlen at h; omega)
  rw [show j - 1 + 1 = j by omega] at this
  simpa using this
theorem rlen_pos {f : Nat → Nat} {N s : Nat} : 0 < rlen f N s := by unfold rlen; omega
/-- gates undo themselves -/
theorem gx_u1 : ∀ a, a < 6 → ∀ b, b < 6 → a ≠ b → ∀ s, s < 64 → (s ^^^ 2 ^ a) / 2 ^ b % 2 = s / 2 ^ b % 2 := by decide +kernel
theorem gx_u2 : ∀ a, a < 6 → ∀ b, b < 6 → ∀ s, s < 64 → gchg (gchg s a b) a b = s := by decide +kernel
def u3c (a b c : Nat) : Bool := (List.range 64).all (fun s => (gchg s a b) / 2 ^ c % 2 == s / 2 ^ c % 2)
theorem gx_u3' : ∀ a, a < 6 → ∀ b, b < 6 → ∀ c, c < 6 → (a = c ∨ b = c) ∨ u3c a b c = true := by decide +kernel
theorem gx_u3 : ∀ a, a < 6 → ∀ b, b < 6 → ∀ c, c < 6 → ∀ s, s < 64 → ¬ (a = c ∨ b = c) → (gchg s a b) / 2 ^ c % 2 = s / 2 ^ c % 2 := by
  intro a ha b hb c hc s hs hn
  rcases gx_u3' a ha b hb c hc with q | q
  · exact absurd q hn
  · have := List.all_eq_true.mp q s (List.mem_range.mpr hs)
    simpa using this
theorem gx_u0 : ∀ a, a < 6 → ∀ s, s < 64 → (s ^^^ 2 ^ a) ^^^ 2 ^ a = s := by decide +kernel
theorem gact_2 {w : Nat} {g : gt} (hg : gok w g) (hw : w ≤ 6) {s : Nat} (hs : s < 64) : gact g (gact g s) = s := by
  obtain ⟨k, a, b, c, d⟩ := g
  obtain ⟨hk, ha, hb, hc, hd, hu, hv, -⟩ := hg
  dsimp only at *
  have u0 := gx_u0 a (by omega) s hs
  have u2 := gx_u2 a (by omega) b (by omega) s hs
  rcases (show d = 0 ∨ d = 1 by omega) with rfl | rfl
  · rcases (show k = 0 ∨ k = 1 ∨ k = 2 ∨ k = 3 ∨ k = 4 by omega) with rfl | rfl | rfl | rfl | rfl
    · simpa [gact] using u0
    · have u1 := gx_u1 a (by omega) b (by omega) (hu (by omega)) s hs
      by_cases hb1 : s / 2 ^ b % 2 = 0
      · simp [gact, hb1]
      · simp [gact, hb1, u1, u0]
    · simpa [gact] using u2
    · have u1 := gx_u1 a (by omega) b (by omega) (hu (by omega)) s hs
      have u3 := gx_u1 a (by omega) c (by omega) (hv (by omega)).1 s hs
      by_cases hc1 : s / 2 ^ c % 2 = 0
      · simp [gact, hc1]
      · by_cases hb1 : s / 2 ^ b % 2 = 0
        · simp [gact, hb1, hc1]
        · simp [gact, hb1, hc1, u1, u3, u0]
    · have u3 := gx_u3 a (by omega) b (by omega) c (by omega) s hs (fun q => by have := hv (by omega); omega)
      by_cases hc1 : s / 2 ^ c % 2 = 0
      · simp [gact, hc1]
      · simp [gact, hc1, u3, u2]
  · simp [gact]
theorem grun_one {w : Nat} {γ : Nat → gt} (hw : w ≤ 6) : ∀ {n : Nat}, (∀ g, g < n → gok w (γ g)) → ∀ {s t : Nat}, s < 64 → t < 64 → grun γ n s = grun γ n t → s = t
  | 0, _, s, t, _, _, e => e
  | n + 1, hg, s, t, hs, ht, e => by
    have e1 : gact (γ n) (grun γ n s) = gact (γ n) (grun γ n t) := e
    have hl : ∀ {u : Nat}, u < 64 → grun γ n u < 64 := fun hu => grun_lt hw (fun g h => hg g (by omega)) hu
    have e2 := congrArg (gact (γ n)) e1
    rw [gact_2 (hg n (by omega)) hw (hl hs), gact_2 (hg n (by omega)) hw (hl ht)] at e2
    exact grun_one hw (fun g h => hg g (by omega)) hs ht e2
theorem rn_inj {B : bd} (ok : Bok B) : inj (rn B) (2 ^ bW B) := ⟨fun s hs => rn_w ok hs, fun s t hs ht e => grun_one ok.1.2 ok.2.2.2.2.2 (rn_64 ok hs) (rn_64 ok ht) e⟩
def rl (B : bd) (s : Nat) : Nat := rlen (rn B) (2 ^ bW B) s
theorem rl_pos {B : bd} {s : Nat} : 0 < rl B s := rlen_pos
theorem rl_min {B : bd} {s j : Nat} (h0 : 0 < j) (h : j < rl B s) : itr (rn B) j s ≠ s := rlen_min h0 h
theorem rl_it {B : bd} (ok : Bok B) {s : Nat} (hs : s < 2 ^ bW B) : itr (rn B) (rl B s) s = s := (rlen_le (rn_inj ok) hs).2
theorem rl_w {B : bd} (ok : Bok B) {s : Nat} (hs : s < 2 ^ bW B) : rl B s ≤ 2 ^ bW B := (rlen_le (rn_inj ok) hs).1
theorem rl_le {B : bd} (ok : Bok B) {s : Nat} (hs : s < 2 ^ bW B) : rl B s ≤ 64 := by
  have := rl_w ok hs
  have := pw_le ok.1.2
  omega
theorem k45 : kd 45 = 1 := rfl
theorem f_0 {S : st_S} {K : Nat → Prop} : sg_R (hp S) 45 1 0 K = K 1 := hq_R k45 rfl
theorem f_1 {S : st_S} {K : Nat → Prop} : sg_R (hp S) 45 1 1 K = K 46 := hq_R k45 rfl
theorem f_2 {S : st_S} {K : Nat → Prop} : sg_R (hp S) 45 1 2 K = K 47 := hq_R k45 rfl
theorem f_3 {S : st_S} {K : Nat → Prop} : sg_R (hp S) 45 1 3 K = K 48 := hq_R k45 rfl
theorem f_v {S : st_S} {A : Prop} : sv_O (hp S) 45 1 A = A := hv_O k45 (by decide)
theorem i_Crl {S : st_S} {B : bd} (hB : Bo S 1 B) (ok : Bok B) {s : Nat} (hs : s < 2 ^ bW B) {Q : aw_R} (hq : Q (some (.int (nI (rl B s)))) (hp S)) : tr_X1_ringLength [.ref 45, .int (nI s)] (hp S) Q := by
  rw [tq_X1_ringLength]
  intro K11 r11
  have hl := rl_le ok hs
  have main : ∀ m n, n + m = rl B s → 0 < n → K11 45 (nI s) (nI (itr (rn B) n s)) (nI n) (hp S) := by
    intro m
    induction m with
    | zero =>
      intro n e hn
      apply r11
      unfold sm_X1_ringLength_11
      rw [show n = rl B s by omega, if_pos (by rw [rl_it ok hs])]
      exact hq
    | succ m ih =>
      intro n e hn
      apply r11
      unfold sm_X1_ringLength_11
      have hi := itr_lt (rn_inj ok).1 hs n
      rw [if_neg (fun q => rl_min (B := B) (s := s) hn (by omega) ((nI_eq (by have := rn_64 ok hi; omega) (by have := rn_64 ok hs; omega)).mp q)), if_neg (show ¬ (64 : Int32) ≤ nI n from nI_ge (b := 64) (by omega) (by omega)), f_0, b_v]
      refine i_run k1 hB ok (rn_64 ok hi) ?_
      simp only [sr_I]
      rw [nI_1]
      exact ih (n + 1) (by omega) (by omega)
  unfold sm_X1_ringLength_0
  rw [f_0, b_v]
  refine i_run k1 hB ok (rn_64 ok hs) ?_
  simp only [sr_I]
  exact main (rl B s - 1) 1 (by have := rl_pos (B := B) (s := s); omega) (by omega)
theorem i_Mrl {S : st_S} {B : bd} (ht : tbl S 64 B) (ok : Bok B) {s : Nat} (hs : s < 2 ^ bW B) {Q : aw_R} (hq : Q (some (.int (nI (rl B s)))) (hp S)) : tr_X7_ringOf [.ref 58, .int (nI s)] (hp S) Q := by
  rw [tq_X7_ringOf]
  intro K9 r9
  have hl := rl_le ok hs
  have main : ∀ m n, n + m = rl B s → 0 < n → K9 58 (nI s) (nI n) (nI (itr (rn B) n s)) (hp S) := by
    intro m
    induction m with
    | zero =>
      intro n e hn
      apply r9
      unfold sm_X7_ringOf_9
      rw [show n = rl B s by omega, if_pos (by rw [rl_it ok hs])]
      exact hq
    | succ m ih =>
      intro n e hn
      apply r9
      unfold sm_X7_ringOf_9
      have hi := itr_lt (rn_inj ok).1 hs n
      rw [if_neg (fun q => rl_min (B := B) (s := s) hn (by omega) ((nI_eq (by have := rn_64 ok hi; omega) (by have := rn_64 ok hs; omega)).mp q)), m_7, t_r (rn_64 ok hi), ht _ hi, nI_1]
      exact ih (n + 1) (by omega) (by omega)
  unfold sm_X7_ringOf_0
  rw [m_7, t_r (rn_64 ok hs), ht _ hs]
  exact main (rl B s - 1) 1 (by have := rl_pos (B := B) (s := s); omega) (by omega)
/-- an OpM whose state is only looked at -/
theorem op_ring {σ : sg} (wf : Wf σ) (x : Int32) : Op tr_X6_ring tr_X7_ring σ [.int x] := by
  have hp2 := pw_le wf.1.1.2
  rcases inb_nat (x := x) (n := 2 ^ bW σ.1) (by omega) with ⟨s, hs, rfl, e⟩ | ⟨hj, e⟩
  · refine ⟨nI (rl σ.1 s), σ, fun S Q h hq => ?_, fun S Q h hq => ?_⟩
    · rw [tq_X6_ring]; unfold sm_X6_ring_0
      rw [c_v, e_CisState h.1.2 h.1.1, e]
      simp only [sr_I]
      rw [if_pos (by decide), c_7, f_v]
      refine i_Crl h.1.2 h.1.1 hs ?_
      simp only [sr_I]
      exact hq S (Fc.rf S) h
    · rw [tq_X7_ring]; unfold sm_X7_ring_0
      rw [m_v, e_MisState h.1 wf.1, e]
      simp only [sr_I]
      rw [if_pos (by decide), m_v]
      refine i_layRuns h wf (fun S' f' h' t' _ _ => ?_)
      simp only [sr_V]
      rw [m_v]
      refine i_Mrl t' wf.1 hs ?_
      simp only [sr_I]
      exact hq S' f' h'
  · refine Op.same (-1) (fun S Q h hq => ?_) (fun S Q h hq => ?_)
    · rw [tq_X6_ring]; unfold sm_X6_ring_0
      rw [c_v, e_CisState h.1.2 h.1.1, e]
      simp only [sr_I]
      rw [if_neg (by decide)]
      exact hq
    · rw [tq_X7_ring]; unfold sm_X7_ring_0
      rw [m_v, e_MisState h.1 wf.1, e]
      simp only [sr_I]
      rw [if_neg (by decide)]
      exact hq
