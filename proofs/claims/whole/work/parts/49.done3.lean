/-! kill, heal, move; wires, gate, of, does, goes, image, restore -/
theorem i_Mdead {S : st_S} {B : bd} (hB : Br S 0 B) (ok : Bok B) {Q : aw_R} (hq : Q (some (.int (nI (gdead (bG B) (bN B))))) (hp S)) : tr_X7_dead [.ref 58] (hp S) Q := by
  rw [tq_X7_dead]
  intro K4 r4
  obtain ⟨a0, a1, a2, a3, a4, ag⟩ := hB
  have hn := ok.2.1
  have hg := ok.2.2.2.2.2
  have main : ∀ m g, g + m = bN B → K4 58 (nI (gdead (bG B) g)) (nI g) (hp S) := by
    intro m
    induction m with
    | zero =>
      intro g e
      apply r4
      unfold sm_X7_dead_4
      rw [m_0, show (sa_I (hp S) 59 1 _) = _ from m_wn (n := 1) (by omega), show S.2.1 59 1 = nI (bN B) from a1, if_pos (nI_le (by omega) (by omega)), show g = bN B by omega]
      exact hq
    | succ m ih =>
      intro g e
      apply r4
      unfold sm_X7_dead_4
      obtain ⟨b0, b1, b2, b3, b4⟩ := ag g (by omega)
      have ih' := ih (g + 1) (by omega)
      have f2 : gdead (bG B) (g + 1) = gdead (bG B) g + (bG B g).2.2.2.2 * 2 ^ g := rfl
      have h5 := (hg g (by omega)).2.2.2.2.1
      rw [m_0, show (sa_I (hp S) 59 1 _) = _ from m_wn (n := 1) (by omega), show S.2.1 59 1 = nI (bN B) from a1, if_neg (nI_ge (by omega) (by omega)), m_0, show ((5 : Int32) + 5 * nI g) + 4 = nI (0 + 5 + 5 * g + 4) from gixk 0 g 4, m_wn (by omega), b4, nI_1]
      rcases (show (bG B g).2.2.2.2 = 0 ∨ (bG B g).2.2.2.2 = 1 by omega) with q | q
      · rw [q, show nI 0 <<< (nI g &&& 31) = (0 : Int32) from Int32.zero_shiftLeft, Int32.or_zero]
        rw [f2, q, Nat.zero_mul, Nat.add_zero] at ih'
        exact ih'
      · rw [q, show nI 1 <<< (nI g &&& 31) = nI (2 ^ g) from shl1 g (by omega), or_pow (gdead_lt (fun g' h' => (hg g' (by omega)).2.2.2.2.1))]
        rw [f2, q, Nat.one_mul] at ih'
        exact ih'
  exact main (bN B) 0 (by omega)
/-- a gate's death set -/
def gdd (g : gt) (d : Nat) : gt := (g.1, g.2.1, g.2.2.1, g.2.2.2.1, d)
theorem gdd_ok {w : Nat} {g : gt} (h : gok w g) {d : Nat} (hd : d < 2) : gok w (gdd g d) := ⟨h.1, h.2.1, h.2.2.1, h.2.2.2.1, hd, h.2.2.2.2.2⟩
def ddB (B : bd) (j d : Nat) : bd := (bW B, bN B, bB B, bP B, bD B, gput (bG B) j (gdd (bG B j) d))
theorem ddB_ok {B : bd} (ok : Bok B) {j d : Nat} (hj : j < bN B) (hd : d < 2) : Bok (ddB B j d) := by
  refine ⟨ok.1, ok.2.1, ok.2.2.1, ok.2.2.2.1, ok.2.2.2.2.1, fun g hg => ?_⟩
  show gok (bW B) (if g = j then gdd (bG B j) d else bG B g)
  split
  · exact gdd_ok (ok.2.2.2.2.2 j hj) hd
  · exact ok.2.2.2.2.2 g hg
theorem gx_kill : ∀ k, k < 5 → ∀ a, a < 6 → ∀ b, b < 6 → ∀ c, c < 6 → ∀ d, d < 2 → (nI (k + 8 * a + 64 * b + 512 * c + 4096 * d) ||| 4096) = nI (k + 8 * a + 64 * b + 512 * c + 4096 * 1) := by decide +kernel
theorem gx_heal : ∀ k, k < 5 → ∀ a, a < 6 → ∀ b, b < 6 → ∀ c, c < 6 → ∀ d, d < 2 → (nI (k + 8 * a + 64 * b + 512 * c + 4096 * d) &&& (-4097)) = nI (k + 8 * a + 64 * b + 512 * c + 4096 * 0) := by decide +kernel
theorem gkill {w : Nat} {g : gt} (hw : w ≤ 6) (h : gok w g) : (nI (gpk g) ||| 4096) = nI (gpk (gdd g 1)) := gx_kill _ h.1 _ (by have := h.2.1; omega) _ (by have := h.2.2.1; omega) _ (by have := h.2.2.2.1; omega) _ h.2.2.2.2.1
theorem gheal {w : Nat} {g : gt} (hw : w ≤ 6) (h : gok w g) : (nI (gpk g) &&& (-4097)) = nI (gpk (gdd g 0)) := gx_heal _ h.1 _ (by have := h.2.1; omega) _ (by have := h.2.2.1; omega) _ (by have := h.2.2.2.1; omega) _ h.2.2.2.2.1
theorem gisd {w : Nat} {g : gt} (hw : w ≤ 6) (h : gok w g) : (if (nI (gpk g) &&& 4096) = 0 then (0 : Int32) else 1) = nI g.2.2.2.2 := by
  have f := gx_d _ h.1 _ (by have := h.2.1; omega : g.2.1 < 6) _ (by have := h.2.2.1; omega : g.2.2.1 < 6) _ (by have := h.2.2.2.1; omega : g.2.2.2.1 < 6) _ h.2.2.2.2.1
  unfold gpk
  rw [f]
  have := h.2.2.2.2.1
  rcases (show g.2.2.2.2 = 0 ∨ g.2.2.2.2 = 1 by omega) with q | q <;> rw [q] <;> decide
/-- board 1's gate j becomes g -/
theorem Bo.put {S : st_S} {B : bd} (h : Bo S 1 B) {j : Nat} {g : gt} : Bo (sA S 2 j (nI (gpk g))) 1 (bW B, bN B, bB B, bP B, bD B, gput (bG B) j g) := by
  obtain ⟨a0, a1, a3, a4, a5, ag⟩ := h
  refine ⟨a0, a1, a3, a4, a5, fun i hi => ?_⟩
  show (if (2 : Nat) = 2 then upd (S.2.1 2) j (nI (gpk g)) else S.2.1 2) i = nI (gpk (if i = j then g else bG B i))
  rw [if_pos rfl]
  by_cases hij : i = j
  · rw [if_pos hij, hij, pk_us]
  · rw [if_neg hij, pk_un hij]
    exact ag i hi
/-- row 0's gate j: one of its five numbers -/
theorem wrow.dead {f : Nat → Int32} {B : bd} (h : wrow f 0 B) {j d : Nat} : wrow (upd f (0 + 5 + 5 * j + 4) (nI d)) 0 (ddB B j d) := by
  obtain ⟨a0, a1, a2, a3, a4, ag⟩ := h
  refine ⟨by rw [pk_un (by omega)]; exact a0, by rw [pk_un (by omega)]; exact a1, by rw [pk_un (by omega)]; exact a2, by rw [pk_un (by omega)]; exact a3, by rw [pk_un (by omega)]; exact a4, fun g hg => ?_⟩
  obtain ⟨b0, b1, b2, b3, b4⟩ := ag g hg
  have e : bG (ddB B j d) g = if g = j then gdd (bG B j) d else bG B g := rfl
  rw [e]
  by_cases hgj : g = j
  · subst hgj
    rw [if_pos rfl]
    exact ⟨by rw [pk_un (by omega)]; exact b0, by rw [pk_un (by omega)]; exact b1, by rw [pk_un (by omega)]; exact b2, by rw [pk_un (by omega)]; exact b3, by rw [pk_us]; rfl⟩
  · rw [if_neg hgj]
    exact ⟨by rw [pk_un (by omega)]; exact b0, by rw [pk_un (by omega)]; exact b1, by rw [pk_un (by omega)]; exact b2, by rw [pk_un (by omega)]; exact b3, by rw [pk_un (by omega)]; exact b4⟩
theorem i_deaden {S : st_S} {σ : sg} (h : MI S σ) (wf : Wf σ) {j d : Nat} (hj : j < bN σ.1) (hd : d < 2) (hne : (bG σ.1 j).2.2.2.2 ≠ d) (e : inb (nI j) 0 (nI (bN σ.1) - 1) = 1) {Q : aw_R} (hq : ∀ S', Fm S S' → MI S' (nb (kp σ) (ddB σ.1 j d)) → Q (some (.int (nI (gdead (bG (ddB σ.1 j d)) (bN σ.1))))) (hp S')) : tr_X7_deaden [.ref 58, .int (nI j), .int (nI d)] (hp S) Q := by
  rw [tq_X7_deaden]
  unfold sm_X7_deaden_0
  have hn := wf.1.2.1
  have hj16 : j < 16 := by omega
  obtain ⟨b0, b1, b2, b3, b4⟩ := h.1.2.2.2.2.2 j hj
  have ix : ((5 : Int32) + 5 * nI j) + 4 = nI (0 + 5 + 5 * j + 4) := gixk 0 j 4
  have h5 := (wf.1.2.2.2.2.2 j hj).2.2.2.2.1
  rw [m_v, e_MisGate h.1, e]
  simp only [sr_I]
  rw [if_pos (by decide), m_0, ix, m_wn (by omega), b4, if_pos (fun q => hne ((nI_eq (by omega) (by omega)).mp q)), m_v]
  refine i_Mkeep h wf (fun S2 f2 hc2 => ?_)
  simp only [sr_V]
  rw [m_0, m_wsn (by omega), sA_F, m_v]
  have hc3 := hc2.row (kp_wf wf) (B := ddB σ.1 j d) (f := upd (S2.2.1 59) (0 + 5 + 5 * j + 4) (nI d)) (fun k hk => pk_un (by omega)) (wrow.dead hc2.1)
  refine i_Mdead hc3.1 (ddB_ok wf.1 hj hd) ?_
  simp only [sr_I]
  exact hq _ (f2.tr (Fm.F (by omega))) hc3
theorem op_kh {σ : sg} (wf : Wf σ) (x : Int32) (d : Nat) (hd : d < 2) (yc ym : aw_T)
    (hc0 : ∀ S Q, CI S σ → inb x 0 (nI (bN σ.1) - 1) = 0 → Q (some (.int (-1))) (hp S) → yc [.ref 0, .int x] (hp S) Q)
    (hc1 : ∀ S Q j, CI S σ → x = nI j → j < bN σ.1 → inb x 0 (nI (bN σ.1) - 1) = 1 → (bG σ.1 j).2.2.2.2 = d → Q (some (.int (-2))) (hp S) → yc [.ref 0, .int x] (hp S) Q)
    (hc2 : ∀ S Q j, CI S σ → x = nI j → j < bN σ.1 → inb x 0 (nI (bN σ.1) - 1) = 1 → (bG σ.1 j).2.2.2.2 ≠ d → (∀ S', Fc S S' → CI S' (nb (kp σ) (ddB σ.1 j d)) → Q (some (.int (nI (gdead (bG (ddB σ.1 j d)) (bN σ.1))))) (hp S')) → yc [.ref 0, .int x] (hp S) Q)
    (hm : ∀ S Q, ym [.ref 58, .int x] (hp S) Q = tr_X7_deaden [.ref 58, .int x, .int (nI d)] (hp S) (fun r h => sr_I r fun v => Q (some (.int v)) h)) : Op yc ym σ [.int x] := by
  have hn := wf.1.2.1
  rcases inb_nat (x := x) (n := bN σ.1) (by omega) with ⟨j, hj, hx, e⟩ | ⟨hj, e⟩
  · have h5 := (wf.1.2.2.2.2.2 j hj).2.2.2.2.1
    by_cases hne : (bG σ.1 j).2.2.2.2 = d
    · refine Op.same (-2) (fun S Q h hq => hc1 S Q j h hx hj e hne hq) (fun S Q h hq => ?_)
      show ym [.ref 58, .int x] (hp S) Q
      rw [hm, tq_X7_deaden]
      unfold sm_X7_deaden_0
      obtain ⟨b0, b1, b2, b3, b4⟩ := h.1.2.2.2.2.2 j hj
      rw [m_v, e_MisGate h.1, e]
      simp only [sr_I]
      rw [if_pos (by decide), m_0, hx, show ((5 : Int32) + 5 * nI j) + 4 = nI (0 + 5 + 5 * j + 4) from gixk 0 j 4, m_wn (by omega), b4, hne, if_neg (fun q => q rfl)]
      exact hq
    · refine ⟨_, _, fun S Q h hq => hc2 S Q j h hx hj e hne hq, fun S Q h hq => ?_⟩
      show ym [.ref 58, .int x] (hp S) Q
      rw [hm]
      subst hx
      refine i_deaden h wf hj hd hne e (fun S' f' h' => ?_)
      exact hq S' f' h'
  · refine Op.same (-1) (fun S Q h hq => hc0 S Q h e hq) (fun S Q h hq => ?_)
    show ym [.ref 58, .int x] (hp S) Q
    rw [hm, tq_X7_deaden]
    unfold sm_X7_deaden_0
    rw [m_v, e_MisGate h.1, e]
    simp only [sr_I]
    rw [if_neg (by decide)]
    exact hq
theorem k2 : kd 2 = 10 := rfl
theorem b_2 {S : st_S} {K : Nat → Prop} : sg_R (hp S) 1 0 2 K = K 2 := hq_R (p := 1) rfl rfl
theorem g_r {S : st_S} {n : Nat} (h : n < 16) {K : Int32 → Prop} : sa_I (hp S) 2 (nI n) K = K (S.2.1 2 n) := by
  rw [ha_I k2, cl (by omega)]
  exact propext ⟨fun q => q.2, fun q => ⟨vi (N := 16) h (by omega), q⟩⟩
theorem g_s {S : st_S} {n : Nat} (h : n < 16) {x : Int32} {K : aw_H → Prop} : ss_I (hp S) 2 (nI n) x K = K (hp (sA S 2 n x)) := by
  rw [hs_I k2, cl (by omega)]
  exact propext ⟨fun q => q.2, fun q => ⟨vi (N := 16) h (by omega), q⟩⟩
theorem op_kill {σ : sg} (wf : Wf σ) (x : Int32) : Op tr_X6_kill tr_X7_kill σ [.int x] := by
  have hn := wf.1.2.1
  have hw := wf.1.1.2
  refine op_kh wf x 1 (by omega) _ _ (fun S Q h e hq => ?_) (fun S Q j h hx hj e hd hq => ?_) (fun S Q j h hx hj e hd hq => ?_) (fun S Q => ?_)
  · rw [tq_X6_kill]; unfold sm_X6_kill_0
    rw [c_v, e_CisGate h.1.2 h.1.1, e]
    simp only [sr_I]
    rw [if_neg (by decide)]
    exact hq
  · rw [tq_X6_kill]; unfold sm_X6_kill_0
    rw [c_v, e_CisGate h.1.2 h.1.1, e]
    simp only [sr_I]
    rw [if_pos (by decide), c_0, b_2, hx, g_r (by omega), show S.2.1 2 j = _ from h.1.2.2.2.2.2.2 j hj, e_isDead, gisd hw (wf.1.2.2.2.2.2 j hj), hd]
    simp only [sr_I]
    rw [if_neg (by decide)]
    exact hq
  · rw [tq_X6_kill]; unfold sm_X6_kill_0
    have h5 := (wf.1.2.2.2.2.2 j hj).2.2.2.2.1
    rw [c_v, e_CisGate h.1.2 h.1.1, e]
    simp only [sr_I]
    rw [if_pos (by decide), c_0, b_2, hx, g_r (by omega), show S.2.1 2 j = _ from h.1.2.2.2.2.2.2 j hj, e_isDead, gisd hw (wf.1.2.2.2.2.2 j hj), show (bG σ.1 j).2.2.2.2 = 0 by omega]
    simp only [sr_I]
    rw [if_pos (by decide), c_1, c_0, p_v]
    refine i_Ckeep h (fun S2 f2 hc2 => ?_)
    simp only [sr_V]
    rw [c_0, b_2, c_0, b_2, g_r (by omega), show S2.2.1 2 j = nI (gpk (bG σ.1 j)) from hc2.1.2.2.2.2.2.2 j hj, e_killed, gkill hw (wf.1.2.2.2.2.2 j hj)]
    simp only [sr_I]
    rw [g_s (by omega), c_0, b_v]
    have hB3 : Bo (sA S2 2 j (nI (gpk (gdd (bG σ.1 j) 1)))) 1 (ddB σ.1 j 1) := hc2.1.2.put
    refine i_deadOnes k1 hB3 (ddB_ok wf.1 hj (by omega)) ?_
    simp only [sr_I]
    exact hq _ (f2.tr ((Sx.A (ps := [2]) (by simp)).fc (by simp))) (hc2.now (Sx.A (by simp)) (ddB_ok wf.1 hj (by omega)) hB3)
  · rw [propext tq_X7_kill]; unfold sm_X7_kill_0
    rw [m_v]
    rfl
theorem op_heal {σ : sg} (wf : Wf σ) (x : Int32) : Op tr_X6_heal tr_X7_heal σ [.int x] := by
  have hn := wf.1.2.1
  have hw := wf.1.1.2
  refine op_kh wf x 0 (by omega) _ _ (fun S Q h e hq => ?_) (fun S Q j h hx hj e hd hq => ?_) (fun S Q j h hx hj e hd hq => ?_) (fun S Q => ?_)
  · rw [tq_X6_heal]; unfold sm_X6_heal_0
    rw [c_v, e_CisGate h.1.2 h.1.1, e]
    simp only [sr_I]
    rw [if_neg (by decide)]
    exact hq
  · rw [tq_X6_heal]; unfold sm_X6_heal_0
    rw [c_v, e_CisGate h.1.2 h.1.1, e]
    simp only [sr_I]
    rw [if_pos (by decide), c_0, b_2, hx, g_r (by omega), show S.2.1 2 j = _ from h.1.2.2.2.2.2.2 j hj, e_isDead, gisd hw (wf.1.2.2.2.2.2 j hj), hd]
    simp only [sr_I]
    rw [if_neg (by decide)]
    exact hq
  · rw [tq_X6_heal]; unfold sm_X6_heal_0
    have h5 := (wf.1.2.2.2.2.2 j hj).2.2.2.2.1
    rw [c_v, e_CisGate h.1.2 h.1.1, e]
    simp only [sr_I]
    rw [if_pos (by decide), c_0, b_2, hx, g_r (by omega), show S.2.1 2 j = _ from h.1.2.2.2.2.2.2 j hj, e_isDead, gisd hw (wf.1.2.2.2.2.2 j hj), show (bG σ.1 j).2.2.2.2 = 1 by omega]
    simp only [sr_I]
    rw [if_pos (by decide), c_1, c_0, p_v]
    refine i_Ckeep h (fun S2 f2 hc2 => ?_)
    simp only [sr_V]
    rw [c_0, b_2, c_0, b_2, g_r (by omega), show S2.2.1 2 j = nI (gpk (bG σ.1 j)) from hc2.1.2.2.2.2.2.2 j hj, e_healed, gheal hw (wf.1.2.2.2.2.2 j hj)]
    simp only [sr_I]
    rw [g_s (by omega), c_0, b_v]
    have hB3 : Bo (sA S2 2 j (nI (gpk (gdd (bG σ.1 j) 0)))) 1 (ddB σ.1 j 0) := hc2.1.2.put
    refine i_deadOnes k1 hB3 (ddB_ok wf.1 hj (by omega)) ?_
    simp only [sr_I]
    exact hq _ (f2.tr ((Sx.A (ps := [2]) (by simp)).fc (by simp))) (hc2.now (Sx.A (by simp)) (ddB_ok wf.1 hj (by omega)) hB3)
  · rw [propext tq_X7_heal]; unfold sm_X7_heal_0
    rw [m_v]
    rfl
