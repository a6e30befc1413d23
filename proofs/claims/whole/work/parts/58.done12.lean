/-! shows, telling, count -/
theorem grun_cong {γ γ' : Nat → gt} : ∀ {n : Nat}, (∀ k, k < n → γ k = γ' k) → ∀ (s : Nat), grun γ n s = grun γ' n s
  | 0, _, _ => rfl
  | n + 1, h, s => by
    show gact (γ n) (grun γ n s) = gact (γ' n) (grun γ' n s)
    rw [grun_cong (fun k hk => h k (by omega)) s, h n (by omega)]
theorem grun_split (γ : Nat → gt) (a s : Nat) : ∀ (b : Nat), grun γ (a + b) s = grun (fun k => γ (a + k)) b (grun γ a s)
  | 0 => rfl
  | b + 1 => by
    show gact (γ (a + b)) (grun γ (a + b) s) = gact (γ (a + b)) (grun (fun k => γ (a + k)) b (grun γ a s))
    rw [grun_split γ a s b]
theorem gact_dd (g : gt) (s : Nat) : gact (gdd g 1) s = s := by simp [gact, gdd]
theorem grun_at {γ : Nat → gt} {g n : Nat} (hg : g < n) (s : Nat) : grun γ n s = grun (fun k => γ (g + 1 + k)) (n - (g + 1)) (gact (γ g) (grun γ g s)) := by
  have := grun_split γ (g + 1) s (n - (g + 1))
  rw [show g + 1 + (n - (g + 1)) = n by omega] at this
  exact this
theorem grun_kl {γ : Nat → gt} {g n : Nat} (hg : g < n) (s : Nat) : grun (gkl γ g) n s = grun (fun k => γ (g + 1 + k)) (n - (g + 1)) (grun γ g s) := by
  rw [grun_at hg, show gkl γ g g = gdd (γ g) 1 from if_pos rfl, gact_dd]
  rw [grun_cong (γ := gkl γ g) (γ' := γ) (fun k hk => if_neg (by omega)) s]
  exact grun_cong (fun k hk => if_neg (by omega)) _
theorem gkl_ok {w n : Nat} {γ : Nat → gt} (h : ∀ g, g < n → gok w (γ g)) {i : Nat} (hi : i < n) : ∀ g, g < n → gok w (gkl γ i g) := by
  intro g hg
  unfold gkl gput
  split
  · exact gdd_ok (h i hi) (by omega)
  · exact h g hg
theorem grun_kill {w : Nat} {γ : Nat → gt} {n g s : Nat} (hw : w ≤ 6) (h : ∀ k, k < n → gok w (γ k)) (hg : g < n) (hs : s < 64) : grun (gkl γ g) n s = grun γ n s ↔ gact (γ g) (grun γ g s) = grun γ g s := by
  rw [grun_kl hg, grun_at (γ := γ) hg]
  have l1 := grun_lt hw (n := g) (fun k hk => h k (by omega)) hs
  have l2 := gact_lt (h g hg) hw l1
  constructor
  · intro e
    exact (grun_one hw (fun k hk => h _ (by omega)) l1 l2 e).symm
  · intro e
    rw [e]
/-- which gates show -/
def gsh (γ : Nat → gt) (s : Nat) : Nat → Nat
  | 0 => 0
  | n + 1 => gsh γ s n + (if gact (γ n) (grun γ n s) = grun γ n s then 0 else 2 ^ n)
theorem gsh_lt (γ : Nat → gt) (s : Nat) : ∀ (n : Nat), gsh γ s n < 2 ^ n
  | 0 => by show 0 < 1; decide
  | n + 1 => by
    have := gsh_lt γ s n
    show gsh γ s n + _ < 2 ^ (n + 1)
    rw [Nat.pow_succ]
    split <;> omega
abbrev sh (B : bd) (s : Nat) : Nat := gsh (bG B) s (bN B)
theorem sh_lt {B : bd} (ok : Bok B) (s : Nat) : sh B s < 65536 := by
  have := gsh_lt (bG B) s (bN B)
  have := p2_16 ok.2.1
  show gsh (bG B) s (bN B) < 65536
  omega
theorem i_shown {S : st_S} {B : bd} (hB : Bo S 1 B) (ok : Bok B) {s : Nat} (hs : s < 64) {Q : aw_R} (hq : Q (some (.int (nI (sh B s)))) (hp S)) : tr_X1_shownGates [.ref 45, .int (nI s)] (hp S) Q := by
  rw [tq_X1_shownGates]
  intro K7 r7
  have hn := ok.2.1
  have main : ∀ m g, g + m = bN B → K7 45 (nI (gsh (bG B) s g)) (nI (grun (bG B) g s)) (nI g) (hp S) := by
    intro m
    induction m with
    | zero =>
      intro g e
      apply r7
      unfold sm_X1_shownGates_7
      rw [f_0, hq_I (k := 1) k1 rfl, hB.2.1, if_pos (nI_le (by omega) (by omega)), show g = bN B by omega]
      exact hq
    | succ m ih =>
      intro g e
      apply r7
      unfold sm_X1_shownGates_7
      have l1 := grun_lt ok.1.2 (n := g) (fun k hk => ok.2.2.2.2.2 k (by omega)) hs
      have l2 := gact_lt (ok.2.2.2.2.2 g (by omega)) ok.1.2 l1
      have ih' := ih (g + 1) (by omega)
      have e1 : gsh (bG B) s (g + 1) = gsh (bG B) s g + (if gact (bG B g) (grun (bG B) g s) = grun (bG B) g s then 0 else 2 ^ g) := rfl
      rw [f_0, hq_I (k := 1) k1 rfl, hB.2.1, if_neg (nI_ge (by omega) (by omega)), f_0, b_2, g_r (by omega), hB.2.2.2.2.2 g (by omega), e_act (ok.2.2.2.2.2 g (by omega)) ok.1.2 l1]
      simp only [sr_I]
      rw [nI_1]
      by_cases hc : gact (bG B g) (grun (bG B) g s) = grun (bG B) g s
      · rw [e1, if_pos hc, Nat.add_zero] at ih'
        rw [if_pos (by rw [hc])]
        exact ih'
      · rw [e1, if_neg hc] at ih'
        rw [if_neg (fun q => hc ((nI_eq (by omega) (by omega)).mp q)), shl1 g (by omega), or_pow (gsh_lt _ _ _)]
        exact ih'
  exact main (bN B) 0 (by omega)
theorem or_0 (m : Nat) : nI m ||| 0 = nI m := by
  show nI m ||| nI 0 = _
  rw [fa_or, Nat.or_zero]
theorem i_shownBy {S : st_S} {σ : sg} (hm : MI S σ) (wf : Wf σ) (ht : tbl S 64 σ.1) {s : Nat} (hs : s < 2 ^ bW σ.1) {Q : aw_R} (hq : ∀ S', Te S S' → Q (some (.int (nI (sh σ.1 s)))) (hp S')) : tr_X7_shownBy [.ref 58, .int (nI s)] (hp S) Q := by
  rw [tq_X7_shownBy]
  intro K4 r4
  have hn := wf.1.2.1
  have hs6 := rn_64 wf.1 hs
  have ok := wf.1.2.2.2.2.2
  have main : ∀ m g S1, g + m = bN σ.1 → Te S S1 → K4 58 (nI s) (nI (gsh (bG σ.1) s g)) (nI g) (hp S1) := by
    intro m
    induction m with
    | zero =>
      intro g S1 e t1
      apply r4
      unfold sm_X7_shownBy_4
      have h1 := t1.mi hm wf
      rw [m_0, show (sa_I (hp S1) 59 1 _) = _ from m_wn (n := 1) (by omega), show S1.2.1 59 1 = nI (bN σ.1) from h1.1.2.1, if_pos (nI_le (by omega) (by omega)), show g = bN σ.1 by omega]
      exact hq S1 t1
    | succ m ih =>
      intro g S1 e t1
      apply r4
      unfold sm_X7_shownBy_4
      have h1 := t1.mi hm wf
      rw [m_0, show (sa_I (hp S1) 59 1 _) = _ from m_wn (n := 1) (by omega), show S1.2.1 59 1 = nI (bN σ.1) from h1.1.2.1, if_neg (nI_ge (by omega) (by omega)), m_v]
      refine i_try h1 wf (fun S2 y2 => ?_)
      simp only [sr_V]
      rw [hv_O k58 (by decide)]
      refine i_killIn y2 (show g < bN σ.1 by omega) hn (fun S3 y3 => ?_)
      simp only [sr_V]
      rw [m_v]
      have h3 := y3.1.mi h1 wf
      have gk := gkl_ok ok (show g < bN σ.1 by omega)
      refine i_MrunIn (x := 1532) (w := bW σ.1) y3.2 h3.1.2.1 hn gk wf.1.1.2 hs6 (by omega) ?_
      simp only [sr_I]
      have t3 := t1.tr y3.1
      rw [m_7, t_r hs6, t3.tb ht s hs, nI_1]
      have ih' := ih (g + 1) S3 (by omega) t3
      have e1 : gsh (bG σ.1) s (g + 1) = gsh (bG σ.1) s g + (if gact (bG σ.1 g) (grun (bG σ.1) g s) = grun (bG σ.1) g s then 0 else 2 ^ g) := rfl
      have k := grun_kill wf.1.1.2 ok (show g < bN σ.1 by omega) hs6
      have l1 := grun_lt wf.1.1.2 gk hs6
      have l2 := grun_lt wf.1.1.2 ok hs6
      by_cases hc : gact (bG σ.1 g) (grun (bG σ.1) g s) = grun (bG σ.1) g s
      · rw [e1, if_pos hc, Nat.add_zero] at ih'
        rw [if_pos (by rw [k.mpr hc]), or_0]
        exact ih'
      · rw [e1, if_neg hc] at ih'
        rw [if_neg (fun q => hc (k.mp ((nI_eq (by omega) (by omega)).mp q))), shl1 g (by omega), or_pow (gsh_lt _ _ _)]
        exact ih'
  exact main (bN σ.1) 0 S (by omega) (Te.rf S)
theorem op_shows {σ : sg} (wf : Wf σ) (x : Int32) : Op tr_X6_shows tr_X7_shows σ [.int x] := by
  have hp2 := pw_le wf.1.1.2
  rcases inb_nat (x := x) (n := 2 ^ bW σ.1) (by omega) with ⟨s, hs, rfl, e⟩ | ⟨hj, e⟩
  · refine ⟨nI (sh σ.1 s), σ, fun S Q h hq => ?_, fun S Q h hq => ?_⟩
    · rw [tq_X6_shows]; unfold sm_X6_shows_0
      rw [c_v, e_CisState h.1.2 h.1.1, e]
      simp only [sr_I]
      rw [if_pos (by decide), c_7, f_v]
      refine i_shown h.1.2 h.1.1 (by omega) ?_
      simp only [sr_I]
      exact hq S (Fc.rf S) h
    · rw [tq_X7_shows]; unfold sm_X7_shows_0
      rw [m_v, e_MisState h.1 wf.1, e]
      simp only [sr_I]
      rw [if_pos (by decide), m_v]
      refine i_layRuns h wf (fun S' f' h' t' _ _ => ?_)
      simp only [sr_V]
      rw [m_v]
      refine i_shownBy h' wf t' hs (fun S2 t2 => ?_)
      simp only [sr_I]
      exact hq S2 (f'.tr t2.fm) (t2.mi h' wf)
  · refine Op.same (-1) (fun S Q h hq => ?_) (fun S Q h hq => ?_)
    · rw [tq_X6_shows]; unfold sm_X6_shows_0
      rw [c_v, e_CisState h.1.2 h.1.1, e]
      simp only [sr_I]
      rw [if_neg (by decide)]
      exact hq
    · rw [tq_X7_shows]; unfold sm_X7_shows_0
      rw [m_v, e_MisState h.1 wf.1, e]
      simp only [sr_I]
      rw [if_neg (by decide)]
      exact hq
/-- the state that shows most -/
def tb (f : Nat → Nat) : Nat → Nat × Nat
  | 0 => (0, 0)
  | s + 1 => if f s ≤ (tb f s).2 then tb f s else (s, f s)
theorem tb_1 (f : Nat → Nat) : tb f 1 = (0, f 0) := by
  show (if f 0 ≤ 0 then (0, 0) else (0, f 0)) = _
  split
  · rw [show f 0 = 0 by omega]
  · rfl
theorem tb_inv (f : Nat → Nat) : ∀ (s : Nat), (tb f (s + 1)).2 = f (tb f (s + 1)).1 ∧ (tb f (s + 1)).1 < s + 1
  | 0 => by rw [tb_1]; exact ⟨rfl, by omega⟩
  | s + 1 => by
    have := tb_inv f s
    show (if f (s + 1) ≤ (tb f (s + 1)).2 then tb f (s + 1) else (s + 1, f (s + 1))).2 = f (if f (s + 1) ≤ (tb f (s + 1)).2 then tb f (s + 1) else (s + 1, f (s + 1))).1 ∧ (if f (s + 1) ≤ (tb f (s + 1)).2 then tb f (s + 1) else (s + 1, f (s + 1))).1 < s + 1 + 1
    split
    · exact ⟨this.1, by omega⟩
    · exact ⟨rfl, by show s + 1 < _; omega⟩
theorem tb_b (f : Nat → Nat) {c : Nat} (h : ∀ s, f s ≤ c) : ∀ (s : Nat), (tb f s).2 ≤ c
  | 0 => Nat.zero_le _
  | s + 1 => by
    have := tb_b f h s
    show (if f s ≤ (tb f s).2 then tb f s else (s, f s)).2 ≤ c
    split
    · exact this
    · exact h s
theorem popc_le (n : Nat) : popc n ≤ 16 := by
  have := fb_sm_bound (f := fun j => n / 2 ^ j % 2) (c := 1) (n := 16) (fun k _ => by show n / 2 ^ k % 2 ≤ 1; omega)
  unfold popc
  omega
def shn (B : bd) (s : Nat) : Nat := popc (sh B s)
theorem shn_le (B : bd) (s : Nat) : shn B s ≤ 16 := popc_le _
theorem i_tellC {S : st_S} {B : bd} (hB : Bo S 1 B) (ok : Bok B) {Q : aw_R} (hq : Q (some (.int (nI (tb (shn B) (2 ^ bW B)).1))) (hp S)) : tr_X1_tellingState [.ref 45] (hp S) Q := by
  rw [tq_X1_tellingState]
  intro K15 r15
  have hw := pw_le ok.1.2
  have main : ∀ m s, s + m = 2 ^ bW B → K15 45 (nI (tb (shn B) s).1) (nI (tb (shn B) s).2) (nI (2 ^ bW B)) (nI s) (hp S) := by
    intro m
    induction m with
    | zero =>
      intro s e
      apply r15
      unfold sm_X1_tellingState_15
      rw [if_pos (nI_le (by omega) (by omega)), show s = 2 ^ bW B by omega]
      exact hq
    | succ m ih =>
      intro s e
      apply r15
      unfold sm_X1_tellingState_15
      rw [if_neg (nI_ge (by omega) (by omega)), f_v]
      refine i_shown hB ok (by omega) ?_
      simp only [sr_I]
      rw [e_bitCount (sh_lt ok s)]
      simp only [sr_I]
      rw [nI_1]
      have ih' := ih (s + 1) (by omega)
      have b1 := tb_b (shn B) (shn_le B) s
      have b2 := shn_le B s
      have e1 : tb (shn B) (s + 1) = if shn B s ≤ (tb (shn B) s).2 then tb (shn B) s else (s, shn B s) := rfl
      by_cases hc : shn B s ≤ (tb (shn B) s).2
      · rw [e1, if_pos hc] at ih'
        rw [if_pos (show nI (popc (sh B s)) ≤ _ from nI_le hc (by omega))]
        exact ih'
      · rw [e1, if_neg hc] at ih'
        rw [if_neg (show ¬ nI (popc (sh B s)) ≤ _ from nI_ge (b := shn B s) (by omega) (by omega))]
        exact ih'
  unfold sm_X1_tellingState_0
  rw [f_0, b_v, e_Bstates k1 hB ok]
  simp only [sr_I]
  exact main (2 ^ bW B) 0 (by omega)
theorem op_telling {σ : sg} (wf : Wf σ) (x : Int32) : Op tr_X6_telling tr_X7_telling σ [.int x] := by
  have hp2 := pw_le wf.1.1.2
  have hp0 : 0 < 2 ^ bW σ.1 := Nat.two_pow_pos _
  have inv := tb_inv (shn σ.1) (2 ^ bW σ.1 - 1)
  rw [show 2 ^ bW σ.1 - 1 + 1 = 2 ^ bW σ.1 by omega] at inv
  have mdl : ∀ S Q, MI S σ → inb x 0 1 = 1 → (∀ S', Fm S S' → MI S' σ → (if ¬ x = 0 then Q (some (.int (nI (tb (shn σ.1) (2 ^ bW σ.1)).2))) (hp S') else Q (some (.int (nI (tb (shn σ.1) (2 ^ bW σ.1)).1))) (hp S'))) → tr_X7_telling [.ref 58, .int x] (hp S) Q := by
    intro S Q h e hq
    rw [tq_X7_telling]
    intro K22 r22
    unfold sm_X7_telling_0
    rw [e_in, e]
    simp only [sr_I]
    rw [if_pos (by decide), m_v]
    refine i_layRuns h wf (fun S1 f1 h1 t1 _ _ => ?_)
    simp only [sr_V]
    have main : ∀ m s S2, s + m = 2 ^ bW σ.1 → 0 < s → Te S1 S2 → K22 58 x (nI (tb (shn σ.1) s).1) (nI (tb (shn σ.1) s).2) (nI s) (hp S2) := by
      intro m
      induction m with
      | zero =>
        intro s S2 e _ t2
        apply r22
        unfold sm_X7_telling_22
        have h2 := t2.mi h1 wf
        rw [m_v, e_Mstates h2.1 wf.1]
        simp only [sr_I]
        rw [if_pos (nI_le (by omega) (by omega)), show s = 2 ^ bW σ.1 by omega]
        exact hq S2 (f1.tr t2.fm) h2
      | succ m ih =>
        intro s S2 e h0 t2
        apply r22
        unfold sm_X7_telling_22
        have h2 := t2.mi h1 wf
        rw [m_v, e_Mstates h2.1 wf.1]
        simp only [sr_I]
        rw [if_neg (nI_ge (by omega) (by omega)), m_v]
        refine i_shownBy h2 wf (t2.tb t1) (show s < 2 ^ bW σ.1 by omega) (fun S3 t3 => ?_)
        simp only [sr_I]
        refine e_Mbits (by have := sh_lt wf.1 s; omega) ?_
        simp only [sr_I]
        rw [nI_1]
        have ih' := ih (s + 1) S3 (by omega) (by omega) (t2.tr t3)
        have b1 := tb_b (shn σ.1) (shn_le σ.1) s
        have b2 := shn_le σ.1 s
        have e1 : tb (shn σ.1) (s + 1) = if shn σ.1 s ≤ (tb (shn σ.1) s).2 then tb (shn σ.1) s else (s, shn σ.1 s) := rfl
        by_cases hc : shn σ.1 s ≤ (tb (shn σ.1) s).2
        · rw [e1, if_pos hc] at ih'
          have q := show nI (popc (sh σ.1 s)) ≤ nI (tb (shn σ.1) s).2 from nI_le hc (by omega)
          rw [if_pos q, if_pos q]
          exact ih'
        · rw [e1, if_neg hc] at ih'
          have q := show ¬ nI (popc (sh σ.1 s)) ≤ nI (tb (shn σ.1) s).2 from nI_ge (b := shn σ.1 s) (by omega) (by omega)
          rw [if_neg q, if_neg q]
          exact ih'
    apply r22
    unfold sm_X7_telling_22
    rw [m_v, e_Mstates h1.1 wf.1]
    simp only [sr_I]
    rw [if_neg (show ¬ nI (2 ^ bW σ.1) ≤ 0 from nI_nle hp0 (by omega)), m_v]
    refine i_shownBy (s := 0) h1 wf t1 hp0 (fun S3 t3 => ?_)
    simp only [sr_I]
    refine e_Mbits (by have := sh_lt wf.1 0; omega) ?_
    simp only [sr_I]
    have := main (2 ^ bW σ.1 - 1) 1 S3 (by omega) (by omega) t3
    rw [tb_1] at this
    have q : ¬ nI (popc (sh σ.1 0)) ≤ (-1) := by
      intro q
      have b2 : popc (sh σ.1 0) ≤ 16 := popc_le _
      have q := Int32.le_iff_toInt_le.mp q
      rw [nI_toInt (by omega)] at q
      have : ((-1 : Int32)).toInt = -1 := by decide
      omega
    rw [if_neg q, if_neg q]
    exact this
  rcases in01 x with ⟨rfl, e⟩ | ⟨rfl, e⟩ | ⟨e, hx⟩
  · refine ⟨nI (tb (shn σ.1) (2 ^ bW σ.1)).1, σ, fun S Q h hq => ?_, fun S Q h hq => ?_⟩
    · rw [tq_X6_telling]; unfold sm_X6_telling_0
      rw [if_neg (by decide), if_pos (by decide), c_7, f_v]
      refine i_tellC h.1.2 h.1.1 ?_
      simp only [sr_I]
      rw [if_neg (by decide)]
      exact hq S (Fc.rf S) h
    · refine mdl S Q h e (fun S' f' h' => ?_)
      rw [if_neg (by decide)]
      exact hq S' f' h'
  · refine ⟨nI (tb (shn σ.1) (2 ^ bW σ.1)).2, σ, fun S Q h hq => ?_, fun S Q h hq => ?_⟩
    · rw [tq_X6_telling]; unfold sm_X6_telling_0
      rw [if_neg (by decide), if_pos (by decide), c_7, f_v]
      refine i_tellC h.1.2 h.1.1 ?_
      simp only [sr_I]
      rw [if_pos (by decide), c_7, f_v]
      refine i_shown h.1.2 h.1.1 (by omega) ?_
      simp only [sr_I]
      rw [e_bitCount (sh_lt wf.1 _)]
      simp only [sr_I]
      have := hq S (Fc.rf S) h
      rw [inv.1] at this
      exact this
    · refine mdl S Q h e (fun S' f' h' => ?_)
      rw [if_pos (by decide)]
      exact hq S' f' h'
  · refine Op.same (-1) (fun S Q h hq => ?_) (fun S Q h hq => ?_)
    · rw [tq_X6_telling]; unfold sm_X6_telling_0
      rcases hx with q | q
      · rw [if_pos q]; exact hq
      · rw [if_neg q]; split <;> exact hq
    · rw [tq_X7_telling]; intro K r; unfold sm_X7_telling_0
      rw [e_in, e]
      simp only [sr_I]
      rw [if_neg (by decide)]
      exact hq
theorem op_count {σ : sg} (wf : Wf σ) (x : Int32) : Op tr_X6_count tr_X7_count σ [.int x] := by
  have hn := wf.1.2.1
  have hb : bB σ.1 < 65536 := by have := wf.1.2.2.1; have := pw_le wf.1.1.2; omega
  by_cases h0 : x = 0
  · subst h0
    refine Op.same (nI (bW σ.1)) (fun S Q h hq => ?_) (fun S Q h hq => ?_)
    · rw [tq_X6_count]; unfold sm_X6_count_0
      rw [if_pos rfl, c_0, hq_I (k := 0) k1 rfl, h.1.2.1]
      exact hq
    · rw [tq_X7_count]; unfold sm_X7_count_0
      rw [if_pos rfl, m_0, show (sa_I (hp S) 59 0 _) = _ from m_wn (n := 0) (by omega), show S.2.1 59 0 = _ from h.1.1]
      exact hq
  by_cases h1 : x = 1
  · subst h1
    refine Op.same (nI (bN σ.1)) (fun S Q h hq => ?_) (fun S Q h hq => ?_)
    · rw [tq_X6_count]; unfold sm_X6_count_0
      rw [if_neg h0, if_pos rfl, c_0, hq_I (k := 1) k1 rfl, h.1.2.2.1]
      exact hq
    · rw [tq_X7_count]; unfold sm_X7_count_0
      rw [if_neg h0, if_pos rfl, m_0, show (sa_I (hp S) 59 1 _) = _ from m_wn (n := 1) (by omega), show S.2.1 59 1 = _ from h.1.2.1]
      exact hq
  by_cases h2 : x = 2
  · subst h2
    refine Op.same (nI (bB σ.1)) (fun S Q h hq => ?_) (fun S Q h hq => ?_)
    · rw [tq_X6_count]; unfold sm_X6_count_0
      rw [if_neg h0, if_neg h1, if_pos rfl, c_0, hq_I (k := 3) k1 rfl, h.1.2.2.2.1]
      exact hq
    · rw [tq_X7_count]; unfold sm_X7_count_0
      rw [if_neg h0, if_neg h1, if_pos rfl, m_0, show (sa_I (hp S) 59 2 _) = _ from m_wn (n := 2) (by omega), show S.2.1 59 2 = _ from h.1.2.2.1]
      exact hq
  by_cases h3 : x = 3
  · subst h3
    refine Op.same (nI (bP σ.1)) (fun S Q h hq => ?_) (fun S Q h hq => ?_)
    · rw [tq_X6_count]; unfold sm_X6_count_0
      rw [if_neg h0, if_neg h1, if_neg h2, if_pos rfl, c_0, hq_I (k := 4) k1 rfl, h.1.2.2.2.2.1]
      exact hq
    · rw [tq_X7_count]; unfold sm_X7_count_0
      rw [if_neg h0, if_neg h1, if_neg h2, if_pos rfl, m_0, show (sa_I (hp S) 59 3 _) = _ from m_wn (n := 3) (by omega), show S.2.1 59 3 = _ from h.1.2.2.2.1]
      exact hq
  by_cases h4 : x = 4
  · subst h4
    refine Op.same (nI (gdead (bG σ.1) (bN σ.1))) (fun S Q h hq => ?_) (fun S Q h hq => ?_)
    · rw [tq_X6_count]; unfold sm_X6_count_0
      rw [if_neg h0, if_neg h1, if_neg h2, if_neg h3, if_pos rfl, c_0, b_v]
      refine i_deadOnes k1 h.1.2 h.1.1 ?_
      simp only [sr_I]
      exact hq
    · rw [tq_X7_count]; unfold sm_X7_count_0
      rw [if_neg h0, if_neg h1, if_neg h2, if_neg h3, if_pos rfl, m_v]
      refine i_Mdead h.1 wf.1 ?_
      simp only [sr_I]
      exact hq
  by_cases h5 : x = 5
  · subst h5
    refine Op.same (nI (popc (bB σ.1))) (fun S Q h hq => ?_) (fun S Q h hq => ?_)
    · rw [tq_X6_count]; unfold sm_X6_count_0
      rw [if_neg h0, if_neg h1, if_neg h2, if_neg h3, if_neg h4, if_pos rfl, c_0, hq_I (k := 3) k1 rfl, h.1.2.2.2.1, e_bitCount hb]
      simp only [sr_I]
      exact hq
    · rw [tq_X7_count]; unfold sm_X7_count_0
      rw [if_neg h0, if_neg h1, if_neg h2, if_neg h3, if_neg h4, if_pos rfl, m_0, show (sa_I (hp S) 59 2 _) = _ from m_wn (n := 2) (by omega), show S.2.1 59 2 = _ from h.1.2.2.1]
      refine e_Mbits (by omega) ?_
      simp only [sr_I]
      exact hq
  by_cases h6 : x = 6
  · subst h6
    refine Op.same (nI σ.2.1.length) (fun S Q h hq => ?_) (fun S Q h hq => ?_)
    · rw [tq_X6_count]; unfold sm_X6_count_0
      obtain ⟨p0, nx, p1, p2, p3, p4⟩ := h.2.1
      rw [if_neg h0, if_neg h1, if_neg h2, if_neg h3, if_neg h4, if_neg h5, if_pos rfl, c_1, hq_I (k := 2) k3 rfl, p3]
      exact hq
    · rw [tq_X7_count]; unfold sm_X7_count_0
      rw [if_neg h0, if_neg h1, if_neg h2, if_neg h3, if_neg h4, if_neg h5, if_pos rfl, m_0, show (sa_I (hp S) 59 765 _) = _ from m_wn (n := 765) (by omega), show S.2.1 59 765 = _ from h.2.1.2.1]
      exact hq
  · refine Op.same (-1) (fun S Q h hq => ?_) (fun S Q h hq => ?_)
    · rw [tq_X6_count]; unfold sm_X6_count_0
      rw [if_neg h0, if_neg h1, if_neg h2, if_neg h3, if_neg h4, if_neg h5, if_neg h6]
      exact hq
    · rw [tq_X7_count]; unfold sm_X7_count_0
      rw [if_neg h0, if_neg h1, if_neg h2, if_neg h3, if_neg h4, if_neg h5, if_neg h6]
      exact hq
