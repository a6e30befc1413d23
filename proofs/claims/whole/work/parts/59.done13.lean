/-! hangs -/
/-- a set of numbers as bits -/
def bs (p : Nat → Bool) : Nat → Nat
  | 0 => 0
  | n + 1 => bs p n + (if p n then 2 ^ n else 0)
theorem bs_lt (p : Nat → Bool) : ∀ (n : Nat), bs p n < 2 ^ n
  | 0 => by show 0 < 1; decide
  | n + 1 => by
    have := bs_lt p n
    show bs p n + _ < 2 ^ (n + 1)
    rw [Nat.pow_succ]
    split <;> omega
theorem bs_bit (p : Nat → Bool) (j : Nat) : ∀ (n : Nat), (bs p n).testBit j = (decide (j < n) && p j)
  | 0 => by simp [bs]
  | n + 1 => by
    have ih := bs_bit p j n
    have hl := bs_lt p n
    show (bs p n + (if p n then 2 ^ n else 0)).testBit j = _
    by_cases hp : p n = true
    · rw [if_pos hp, Nat.add_comm, show 2 ^ n + bs p n = 2 ^ n * 1 + bs p n by omega, Nat.testBit_two_pow_mul_add _ hl]
      by_cases hj : j < n
      · rw [if_pos hj, ih]
        simp [hj, show j < n + 1 by omega]
      · rw [if_neg hj]
        by_cases hjn : j = n
        · subst hjn
          simp [hp]
        · have : ¬ j < n + 1 := by omega
          simp only [this, decide_false, Bool.false_and]
          rw [show j - n = (j - n - 1) + 1 by omega, Nat.testBit_succ]
          simp
    · rw [if_neg hp, Nat.add_zero, ih]
      by_cases hjn : j = n
      · subst hjn
        simp [hp]
      · by_cases hj : j < n
        · simp [hj, show j < n + 1 by omega]
        · simp [hj, show ¬ j < n + 1 by omega]
theorem bs_cong {p q : Nat → Bool} : ∀ {n : Nat}, (∀ k, k < n → p k = q k) → bs p n = bs q n
  | 0, _ => rfl
  | n + 1, h => by
    show bs p n + _ = bs q n + _
    rw [bs_cong (fun k hk => h k (by omega)), h n (by omega)]
theorem bs_or {p : Nat → Bool} {k n : Nat} (hk : k < n) : bs p n ||| 2 ^ k = bs (fun j => p j || j == k) n := by
  apply Nat.eq_of_testBit_eq
  intro j
  rw [fb_bit_set, bs_bit, bs_bit]
  by_cases hjk : j = k
  · subst hjk
    simp [hk]
  · have : (j == k) = false := by simpa using hjk
    simp [this, hjk]
theorem or_bs {p : Nat → Bool} {k n : Nat} (hk : k < n) : nI (bs p n) ||| nI (2 ^ k) = nI (bs (fun j => p j || j == k) n) := by rw [fa_or, bs_or hk]
theorem bs_none (n : Nat) : bs (fun _ => false) n = 0 := by
  induction n with
  | zero => rfl
  | succ n ih => show bs _ n + 0 = 0; rw [ih]
def anyb (D : Nat → Bool) : Nat → Bool
  | 0 => false
  | n + 1 => anyb D n || D n
theorem a_r {S : st_S} {p n : Nat} (hk : kd p = 10) (hl : ln p = 64) (h : n < 64) {K : Int32 → Prop} : sa_I (hp S) p (nI n) K = K (S.2.1 p n) := by
  rw [ha_I hk, cl (by omega), hl]
  exact propext ⟨fun q => q.2, fun q => ⟨vi h (by decide), q⟩⟩
theorem a_s {S : st_S} {p n : Nat} (hk : kd p = 10) (hl : ln p = 64) (h : n < 64) {x : Int32} {K : aw_H → Prop} : ss_I (hp S) p (nI n) x K = K (hp (sA S p n x)) := by
  rw [hs_I hk, cl (by omega), hl]
  exact propext ⟨fun q => q.2, fun q => ⟨vi h (by decide), q⟩⟩
theorem i_learn {S : st_S} {B : bd} (hB : Bo S 1 B) (ok : Bok B) {Q : aw_R} (hq : ∀ S', Sx [46] S S' → tbl S' 46 B → Q none (hp S')) : tr_X1_learnRuns [.ref 45] (hp S) Q := by
  rw [tq_X1_learnRuns]
  intro K10 r10
  have hw := pw_le ok.1.2
  have kB : ∀ f, Bo (sF S 46 f) 1 B := fun f => hB.kept (Sx.F (ps := [46]) (by simp) 1 (by simp)) (Sx.F (ps := [46]) (by simp) 2 (by simp))
  have main : ∀ m s, s + m = 2 ^ bW B → K10 45 (nI (2 ^ bW B)) (nI s) (hp (sF S 46 (fa_fill (fun k => nI (rn B k)) (S.2.1 46) s))) := by
    intro m
    induction m with
    | zero =>
      intro s e
      apply r10
      unfold sm_X1_learnRuns_10
      rw [if_pos (nI_le (by omega) (by omega))]
      exact hq _ (Sx.F (by simp)) (fun k hk => by rw [sF_at]; exact fa_fill_in (by omega))
    | succ m ih =>
      intro s e
      apply r10
      unfold sm_X1_learnRuns_10
      rw [if_neg (nI_ge (by omega) (by omega)), f_1, f_0, b_v]
      refine i_run k1 (kB _) ok (by omega) ?_
      simp only [sr_I]
      rw [a_s rfl rfl (by omega), sA_F, sF_at, sF_F, nI_1, fa_fill_succ (fun k => nI (rn B k)) (S.2.1 46) s]
      exact ih (s + 1) (by omega)
  unfold sm_X1_learnRuns_0
  rw [f_0, b_v, e_Bstates k1 hB ok]
  simp only [sr_I]
  have := main (2 ^ bW B) 0 (by omega)
  rw [fa_fill_0, sF_self] at this
  exact this
/-- does wire k make a difference at wire v, from state s -/
def hgD (B : bd) (v k s : Nat) : Bool := (rn B s ^^^ rn B (s ^^^ 2 ^ k)) / 2 ^ v % 2 == 1
def hgT (B : bd) (v s : Nat) : Nat := (rn B s ^^^ s) / 2 ^ v % 2
theorem x64 {a b : Nat} (ha : a < 64) (hb : b < 64) : a ^^^ b < 64 := Nat.xor_lt_two_pow (n := 6) ha hb
theorem xw {w s k : Nat} (hs : s < 2 ^ w) (hk : k < w) : s ^^^ 2 ^ k < 2 ^ w := Nat.xor_lt_two_pow hs (p2lt hk)
theorem i_hangC {S : st_S} {B : bd} (hB : Bo S 1 B) (ok : Bok B) {v : Nat} (hv : v < bW B) {Q : aw_R} (hq : ∀ S', Sx [46] S S' → Q (some (.int (nI (bs (fun k => anyb (hgD B v k) (2 ^ bW B)) (bW B))))) (hp S')) : tr_X1_hangsOn [.ref 45, .int (nI v)] (hp S) Q := by
  rw [tq_X1_hangsOn]
  intro K17 K32 r17 r32
  have hw := pw_le ok.1.2
  have hw6 := ok.1.2
  unfold sm_X1_hangsOn_0
  rw [f_v]
  refine i_learn hB ok (fun S1 s1 t1 => ?_)
  have hB1 : Bo S1 1 B := hB.kept (s1 1 (by simp)) (s1 2 (by simp))
  simp only [sr_V]
  rw [f_0, b_v, e_Bstates k1 hB1 ok]
  simp only [sr_I]
  have inner : ∀ m w s, w < bW B → s + m = 2 ^ bW B → K17 45 (nI v) (nI (bs (fun k => decide (k < w + 1) && anyb (hgD B v k) (2 ^ bW B)) (bW B))) (nI (2 ^ bW B)) (nI (w + 1)) (hp S1) → K32 45 (nI v) (nI (bs (fun k => (decide (k < w) && anyb (hgD B v k) (2 ^ bW B)) || (decide (k = w) && anyb (hgD B v k) s)) (bW B))) (nI (2 ^ bW B)) (nI w) (nI s) (hp S1) := by
    intro m
    induction m with
    | zero =>
      intro w s hw1 e hk
      apply r32
      unfold sm_X1_hangsOn_32
      rw [if_pos (nI_le (by omega) (by omega)), nI_1]
      have : (fun k => (decide (k < w) && anyb (hgD B v k) (2 ^ bW B)) || (decide (k = w) && anyb (hgD B v k) s)) = fun k => decide (k < w + 1) && anyb (hgD B v k) (2 ^ bW B) := by
        funext k
        rw [show s = 2 ^ bW B by omega]
        by_cases h1 : k < w
        · simp [h1, show k < w + 1 by omega, show ¬ k = w by omega]
        · by_cases h2 : k = w
          · simp [h2]
          · simp [h1, h2, show ¬ k < w + 1 by omega]
      rw [this]
      exact hk
    | succ m ih =>
      intro w s hw1 e hk
      apply r32
      unfold sm_X1_hangsOn_32
      have x1 := xw (w := bW B) (s := s) (k := w) (by omega) hw1
      have l1 := rn_w ok (show s < 2 ^ bW B by omega)
      have l2 := rn_w ok x1
      have ih' := ih w (s + 1) hw1 (by omega) hk
      rw [if_neg (nI_ge (by omega) (by omega)), f_1, a_r rfl rfl (by omega), t1 s (by omega), f_1, gx_fl s (by omega) w (by omega), a_r rfl rfl (by omega), t1 _ x1, fb_xorI, gx_has _ (x64 (by omega) (by omega)) v (by omega), nI_1, shl1 w (by omega)]
      by_cases hc : (rn B s ^^^ rn B (s ^^^ 2 ^ w)) / 2 ^ v % 2 = 0
      · rw [if_pos (by rw [hc]; rfl)]
        have : (fun k => (decide (k < w) && anyb (hgD B v k) (2 ^ bW B)) || (decide (k = w) && anyb (hgD B v k) (s + 1))) = fun k => (decide (k < w) && anyb (hgD B v k) (2 ^ bW B)) || (decide (k = w) && anyb (hgD B v k) s) := by
          funext k
          by_cases h2 : k = w
          · subst h2
            simp [anyb, hgD, hc]
          · simp [h2]
        rw [this] at ih'
        exact ih'
      · rw [if_neg (nI_ne0 (Nat.pos_of_ne_zero hc) (by omega)), or_bs hw1]
        have : (fun k => (decide (k < w) && anyb (hgD B v k) (2 ^ bW B)) || (decide (k = w) && anyb (hgD B v k) (s + 1))) = fun k => ((decide (k < w) && anyb (hgD B v k) (2 ^ bW B)) || (decide (k = w) && anyb (hgD B v k) s)) || k == w := by
          funext k
          by_cases h2 : k = w
          · subst h2
            simp [anyb, hgD, show (rn B s ^^^ rn B (s ^^^ 2 ^ k)) / 2 ^ v % 2 = 1 by omega]
          · simp [h2]
        rw [this] at ih'
        exact ih'
  have outer : ∀ m w, w + m = bW B → K17 45 (nI v) (nI (bs (fun k => decide (k < w) && anyb (hgD B v k) (2 ^ bW B)) (bW B))) (nI (2 ^ bW B)) (nI w) (hp S1) := by
    intro m
    induction m with
    | zero =>
      intro w e
      apply r17
      unfold sm_X1_hangsOn_17
      rw [f_0, hq_I (k := 0) k1 rfl, hB1.1, if_pos (nI_le (by omega) (by omega)), bs_cong (q := fun k => anyb (hgD B v k) (2 ^ bW B)) (fun k hk => by simp [show k < w by omega])]
      exact hq S1 s1
    | succ m ih =>
      intro w e
      apply r17
      unfold sm_X1_hangsOn_17
      rw [f_0, hq_I (k := 0) k1 rfl, hB1.1, if_neg (nI_ge (by omega) (by omega))]
      have := inner (2 ^ bW B) w 0 (by omega) (by omega) (ih (w + 1) (by omega))
      have e1 : (fun k => (decide (k < w) && anyb (hgD B v k) (2 ^ bW B)) || (decide (k = w) && anyb (hgD B v k) 0)) = fun k => decide (k < w) && anyb (hgD B v k) (2 ^ bW B) := by
        funext k
        simp [anyb]
      rw [e1] at this
      exact this
  have := outer (bW B) 0 (by omega)
  rw [show bs (fun k => decide (k < 0) && anyb (hgD B v k) (2 ^ bW B)) (bW B) = 0 from (bs_cong (q := fun _ => false) (fun k _ => by simp)).trans (bs_none _)] at this
  exact this
theorem i_turnC {S : st_S} {B : bd} (hB : Bo S 1 B) (ok : Bok B) {v : Nat} (hv : v < bW B) {Q : aw_R} (hq : Q (some (.int (nI (fb_sm (hgT B v) (2 ^ bW B))))) (hp S)) : tr_X1_turnedStates [.ref 45, .int (nI v)] (hp S) Q := by
  rw [tq_X1_turnedStates]
  intro K13 r13
  have hw := pw_le ok.1.2
  have hw6 := ok.1.2
  have main : ∀ m s, s + m = 2 ^ bW B → K13 45 (nI v) (nI (fb_sm (hgT B v) s)) (nI (2 ^ bW B)) (nI s) (hp S) := by
    intro m
    induction m with
    | zero =>
      intro s e
      apply r13
      unfold sm_X1_turnedStates_13
      rw [if_pos (nI_le (by omega) (by omega)), show s = 2 ^ bW B by omega]
      exact hq
    | succ m ih =>
      intro s e
      apply r13
      unfold sm_X1_turnedStates_13
      have l1 : grun (bG B) (bN B) s < 2 ^ bW B := rn_w ok (show s < 2 ^ bW B by omega)
      rw [if_neg (nI_ge (by omega) (by omega)), f_0, b_v]
      refine i_run k1 hB ok (by omega) ?_
      simp only [sr_I]
      rw [fb_xorI, gx_has _ (x64 (by omega) (by omega)) v (by omega), nI_add, nI_1]
      exact ih (s + 1) (by omega)
  unfold sm_X1_turnedStates_0
  rw [f_0, b_v, e_Bstates k1 hB ok]
  simp only [sr_I]
  exact main (2 ^ bW B) 0 (by omega)
theorem op_hangs {σ : sg} (wf : Wf σ) (x y : Int32) : Op tr_X6_hangs tr_X7_hangs σ [.int x, .int y] := by
  have hw6 := wf.1.1.2
  have hw := pw_le hw6
  rcases inb_nat (x := x) (n := bW σ.1) (by omega) with ⟨v, hv, rfl, e⟩ | ⟨hj, e⟩
  · have mdl : ∀ S Q, MI S σ → inb y 0 1 = 1 → (∀ S', Fm S S' → MI S' σ → (if ¬ y = 0 then Q (some (.int (nI (fb_sm (hgT σ.1 v) (2 ^ bW σ.1))))) (hp S') else Q (some (.int (nI (bs (fun k => anyb (hgD σ.1 v k) (2 ^ bW σ.1)) (bW σ.1))))) (hp S'))) → tr_X7_hangs [.ref 58, .int (nI v), .int y] (hp S) Q := by
      intro S Q h e2 hq
      rw [tq_X7_hangs]
      intro K31 K70 r31 r70
      unfold sm_X7_hangs_0
      rw [m_v, e_MisWire h.1, e]
      simp only [sr_I]
      rw [if_neg (by decide), e_in, e2]
      simp only [sr_I]
      rw [if_pos (by decide), m_v]
      refine i_layRuns h wf (fun S1 f1 h1 t1 _ _ => ?_)
      simp only [sr_V]
      have w0 : ∀ K, sa_I (hp S1) 59 0 K = K (nI (bW σ.1)) := fun K => by
        rw [show (sa_I (hp S1) 59 0 K) = _ from m_wn (n := 0) (by omega), show S1.2.1 59 0 = nI (bW σ.1) from h1.1.1]
      have inner : ∀ m s k0 T, s < 2 ^ bW σ.1 → k0 + m = bW σ.1 → K31 58 (nI v) y (nI (bs (fun k => anyb (hgD σ.1 v k) (s + 1)) (bW σ.1))) T (nI (s + 1)) (hp S1) → K70 58 (nI v) y (nI (bs (fun k => anyb (hgD σ.1 v k) s || (decide (k < k0) && hgD σ.1 v k s)) (bW σ.1))) T (nI s) (nI k0) (hp S1) := by
        intro m
        induction m with
        | zero =>
          intro s k0 T hs e hk
          apply r70
          unfold sm_X7_hangs_70
          rw [m_0, w0, if_pos (nI_le (by omega) (by omega)), nI_1, bs_cong (q := fun k => anyb (hgD σ.1 v k) (s + 1)) (fun k hk => by simp [anyb, show k < k0 by omega])]
          exact hk
        | succ m ih =>
          intro s k0 T hs e hk
          apply r70
          unfold sm_X7_hangs_70
          have x1 := xw (w := bW σ.1) (s := s) (k := k0) hs (by omega)
          have l1 := rn_w wf.1 hs
          have l2 := rn_w wf.1 x1
          have ih' := ih s (k0 + 1) T hs (by omega) hk
          rw [m_0, w0, if_neg (nI_ge (by omega) (by omega)), m_7, t_r (by omega), t1 s hs, m_7, gx_fl s (by omega) k0 (by omega), t_r (by omega), t1 _ x1, fb_xorI, e_has]
          simp only [sr_I]
          rw [has_nat (x64 (by omega) (by omega)) (by omega), nI_1, shl1 k0 (by omega)]
          by_cases hc : (rn σ.1 s ^^^ rn σ.1 (s ^^^ 2 ^ k0)) / 2 ^ v % 2 = 0
          · rw [if_pos (by rw [hc]; rfl), or_0]
            have : (fun k => anyb (hgD σ.1 v k) s || (decide (k < k0 + 1) && hgD σ.1 v k s)) = fun k => anyb (hgD σ.1 v k) s || (decide (k < k0) && hgD σ.1 v k s) := by
              funext k
              by_cases h2 : k = k0
              · subst h2
                simp [hgD, hc]
              · by_cases h3 : k < k0
                · simp [h3, show k < k0 + 1 by omega]
                · simp [h3, show ¬ k < k0 + 1 by omega]
            rw [this] at ih'
            exact ih'
          · rw [if_neg (nI_ne0 (Nat.pos_of_ne_zero hc) (by omega)), or_bs (show k0 < bW σ.1 by omega)]
            have : (fun k => anyb (hgD σ.1 v k) s || (decide (k < k0 + 1) && hgD σ.1 v k s)) = fun k => (anyb (hgD σ.1 v k) s || (decide (k < k0) && hgD σ.1 v k s)) || k == k0 := by
              funext k
              by_cases h2 : k = k0
              · subst h2
                simp [hgD, show (rn σ.1 s ^^^ rn σ.1 (s ^^^ 2 ^ k)) / 2 ^ v % 2 = 1 by omega]
              · by_cases h3 : k < k0
                · simp [h3, h2, show k < k0 + 1 by omega]
                · simp [h3, h2, show ¬ k < k0 + 1 by omega]
            rw [this] at ih'
            exact ih'
      have outer : ∀ m s, s + m = 2 ^ bW σ.1 → K31 58 (nI v) y (nI (bs (fun k => anyb (hgD σ.1 v k) s) (bW σ.1))) (nI (fb_sm (hgT σ.1 v) s)) (nI s) (hp S1) := by
        intro m
        induction m with
        | zero =>
          intro s e
          apply r31
          unfold sm_X7_hangs_31
          rw [m_v, e_Mstates h1.1 wf.1]
          simp only [sr_I]
          rw [if_pos (nI_le (by omega) (by omega)), show s = 2 ^ bW σ.1 by omega]
          exact hq S1 f1 h1
        | succ m ih =>
          intro s e
          apply r31
          unfold sm_X7_hangs_31
          have l1 := rn_w wf.1 (show s < 2 ^ bW σ.1 by omega)
          rw [m_v, e_Mstates h1.1 wf.1]
          simp only [sr_I]
          rw [if_neg (nI_ge (by omega) (by omega)), m_7, t_r (by omega), t1 s (by omega), fb_xorI, e_has]
          simp only [sr_I]
          rw [has_nat (x64 (by omega) (by omega)) (by omega), Nat.xor_comm]
          have ih' := inner (bW σ.1) s 0 _ (by omega) (by omega) (ih (s + 1) (by omega))
          have e1 : (fun k => anyb (hgD σ.1 v k) s || (decide (k < 0) && hgD σ.1 v k s)) = fun k => anyb (hgD σ.1 v k) s := by
            funext k
            simp
          have e2 : fb_sm (hgT σ.1 v) (s + 1) = fb_sm (hgT σ.1 v) s + (rn σ.1 s ^^^ s) / 2 ^ v % 2 := rfl
          rw [e1, e2] at ih'
          rcases (show (rn σ.1 s ^^^ s) / 2 ^ v % 2 = 0 ∨ (rn σ.1 s ^^^ s) / 2 ^ v % 2 = 1 by omega) with hc | hc
          · rw [hc, if_pos (by decide)]
            rw [hc, ← nI_add] at ih'
            exact ih'
          · rw [hc, if_neg (by decide)]
            rw [hc, ← nI_add] at ih'
            exact ih'
      have := outer (2 ^ bW σ.1) 0 (by omega)
      rw [show bs (fun k => anyb (hgD σ.1 v k) 0) (bW σ.1) = 0 from bs_none _] at this
      exact this
    rcases in01 y with ⟨rfl, e2⟩ | ⟨rfl, e2⟩ | ⟨e2, hy⟩
    · refine ⟨nI (bs (fun k => anyb (hgD σ.1 v k) (2 ^ bW σ.1)) (bW σ.1)), σ, fun S Q h hq => ?_, fun S Q h hq => ?_⟩
      · rw [tq_X6_hangs]; unfold sm_X6_hangs_0
        rw [c_v, e_CisWire h.1.2 h.1.1, e]
        simp only [sr_I]
        rw [if_neg (by decide), if_neg (by decide), if_pos (by decide), if_neg (by decide), c_7, f_v]
        refine i_hangC h.1.2 h.1.1 hv (fun S1 s1 => ?_)
        simp only [sr_I]
        have s2 : Sx [45, 46, 47, 48] S S1 := s1.mono (by simp)
        exact hq S1 (fo_fc s2) (h.fo s2)
      · refine mdl S Q h e2 (fun S' f' h' => ?_)
        rw [if_neg (by decide)]
        exact hq S' f' h'
    · refine ⟨nI (fb_sm (hgT σ.1 v) (2 ^ bW σ.1)), σ, fun S Q h hq => ?_, fun S Q h hq => ?_⟩
      · rw [tq_X6_hangs]; unfold sm_X6_hangs_0
        rw [c_v, e_CisWire h.1.2 h.1.1, e]
        simp only [sr_I]
        rw [if_neg (by decide), if_neg (by decide), if_pos (by decide), if_pos (by decide), c_7, f_v]
        refine i_turnC h.1.2 h.1.1 hv ?_
        simp only [sr_I]
        exact hq S (Fc.rf S) h
      · refine mdl S Q h e2 (fun S' f' h' => ?_)
        rw [if_pos (by decide)]
        exact hq S' f' h'
    · refine Op.same (-1) (fun S Q h hq => ?_) (fun S Q h hq => ?_)
      · rw [tq_X6_hangs]; unfold sm_X6_hangs_0
        rw [c_v, e_CisWire h.1.2 h.1.1, e]
        simp only [sr_I]
        rw [if_neg (by decide)]
        rcases hy with q | q
        · rw [if_pos q]; exact hq
        · rw [if_neg q]; split <;> exact hq
      · rw [tq_X7_hangs]; intro K K' r r'; unfold sm_X7_hangs_0
        rw [m_v, e_MisWire h.1, e]
        simp only [sr_I]
        rw [if_neg (by decide), e_in, e2]
        simp only [sr_I]
        rw [if_neg (by decide)]
        exact hq
  · refine Op.same (-1) (fun S Q h hq => ?_) (fun S Q h hq => ?_)
    · rw [tq_X6_hangs]; unfold sm_X6_hangs_0
      rw [c_v, e_CisWire h.1.2 h.1.1, e]
      simp only [sr_I]
      rw [if_pos (by decide)]
      exact hq
    · rw [tq_X7_hangs]; intro K K' r r'; unfold sm_X7_hangs_0
      rw [m_v, e_MisWire h.1, e]
      simp only [sr_I]
      rw [if_pos (by decide)]
      exact hq
