/-! THE REFERENCE: its row of numbers -/
theorem k58 : kd 58 = 6 := rfl
theorem m_0 {S : st_S} {K : Nat → Prop} : sg_R (hp S) 58 6 0 K = K 59 := hq_R k58 rfl
theorem m_2 {S : st_S} {K : Nat → Prop} : sg_R (hp S) 58 6 2 K = K 60 := hq_R k58 rfl
theorem m_4 {S : st_S} {K : Nat → Prop} : sg_R (hp S) 58 6 4 K = K 61 := hq_R k58 rfl
theorem m_5 {S : st_S} {K : Nat → Prop} : sg_R (hp S) 58 6 5 K = K 62 := hq_R k58 rfl
theorem m_6 {S : st_S} {K : Nat → Prop} : sg_R (hp S) 58 6 6 K = K 63 := hq_R k58 rfl
theorem m_7 {S : st_S} {K : Nat → Prop} : sg_R (hp S) 58 6 7 K = K 64 := hq_R k58 rfl
theorem m_12 {S : st_S} {K : Nat → Prop} : sg_R (hp S) 58 6 12 K = K 65 := hq_R k58 rfl
theorem m_13 {S : st_S} {K : Nat → Prop} : sg_R (hp S) 58 6 13 K = K 66 := hq_R k58 rfl
theorem m_14 {S : st_S} {K : Nat → Prop} : sg_R (hp S) 58 6 14 K = K 67 := hq_R k58 rfl
theorem m_v {S : st_S} {A : Prop} : sv_O (hp S) 58 6 A = A := hv_O k58 (by decide)
theorem m_w {S : st_S} {i : Int32} {K : Int32 → Prop} : sa_I (hp S) 59 i K = (vp_in i 1617 ∧ K (S.2.1 59 i.toNatClampNeg)) := ha_I rfl
theorem m_ws {S : st_S} {i x : Int32} {K : aw_H → Prop} : ss_I (hp S) 59 i x K = (vp_in i 1617 ∧ K (hp (sA S 59 i.toNatClampNeg x))) := hs_I rfl
theorem m_wn {S : st_S} {n : Nat} (h : n < 1617) {K : Int32 → Prop} : sa_I (hp S) 59 (nI n) K = K (S.2.1 59 n) := by
  rw [m_w, cl (by omega)]
  exact propext ⟨fun q => q.2, fun q => ⟨vi h (by omega), q⟩⟩
theorem m_wsn {S : st_S} {n : Nat} (h : n < 1617) {x : Int32} {K : aw_H → Prop} : ss_I (hp S) 59 (nI n) x K = K (hp (sA S 59 n x)) := by
  rw [m_ws, cl (by omega)]
  exact propext ⟨fun q => q.2, fun q => ⟨vi h (by omega), q⟩⟩
/-- literals -/
theorem l5 : (5 : Int32) = nI 5 := rfl
theorem i_lit (x k : Nat) : nI x + nI k = nI (x + k) := nI_add x k
/-- the gates of the row from x on -/
def Rg (S : st_S) (x n : Nat) (γ : Nat → gt) : Prop := ∀ g, g < n → S.2.1 59 (x + 5 + 5 * g) = nI (γ g).1 ∧ S.2.1 59 (x + 5 + 5 * g + 1) = nI (γ g).2.1 ∧ S.2.1 59 (x + 5 + 5 * g + 2) = nI (γ g).2.2.1 ∧ S.2.1 59 (x + 5 + 5 * g + 3) = nI (γ g).2.2.2.1 ∧ S.2.1 59 (x + 5 + 5 * g + 4) = nI (γ g).2.2.2.2
theorem Br.g {S : st_S} {x : Nat} {B : bd} (h : Br S x B) : Rg S x (bN B) (bG B) := h.2.2.2.2.2
theorem e_Mstates {S : st_S} {B : bd} (hB : Br S 0 B) (ok : Bok B) {Q : aw_R} : tr_X7_states [.ref 58] (hp S) Q = Q (some (.int (nI (2 ^ bW B)))) (hp S) := by
  rw [propext tq_X7_states]
  unfold sm_X7_states_0
  rw [m_0, show (0 : Int32) = nI 0 from rfl, m_wn (by omega), hB.1, shl1 _ (by have := ok.1; omega)]
theorem e_MisState {S : st_S} {B : bd} (hB : Br S 0 B) (ok : Bok B) {x : Int32} {Q : aw_R} : tr_X7_isState [.ref 58, .int x] (hp S) Q = Q (some (.int (inb x 0 (nI (2 ^ bW B) - 1)))) (hp S) := by
  rw [propext tq_X7_isState]
  unfold sm_X7_isState_0
  rw [m_v, e_Mstates hB ok]
  simp only [sr_I, e_in]
  exact propext ⟨fun q => q.2, fun q => ⟨inb_01 _ _ _, q⟩⟩
theorem e_MisWire {S : st_S} {B : bd} (hB : Br S 0 B) {x : Int32} {Q : aw_R} : tr_X7_isWire [.ref 58, .int x] (hp S) Q = Q (some (.int (inb x 0 (nI (bW B) - 1)))) (hp S) := by
  rw [propext tq_X7_isWire]
  unfold sm_X7_isWire_0
  rw [m_0, show (sa_I (hp S) 59 0 _) = _ from m_wn (n := 0) (by omega), hB.1]
  simp only [sr_I, e_in]
  exact propext ⟨fun q => q.2, fun q => ⟨inb_01 _ _ _, q⟩⟩
theorem e_MisGate {S : st_S} {B : bd} (hB : Br S 0 B) {x : Int32} {Q : aw_R} : tr_X7_isGate [.ref 58, .int x] (hp S) Q = Q (some (.int (inb x 0 (nI (bN B) - 1)))) (hp S) := by
  rw [propext tq_X7_isGate]
  unfold sm_X7_isGate_0
  rw [m_0, show (sa_I (hp S) 59 1 _) = _ from m_wn (n := 1) (by omega), hB.2.1]
  simp only [sr_I, e_in]
  exact propext ⟨fun q => q.2, fun q => ⟨inb_01 _ _ _, q⟩⟩
theorem gix (x g : Nat) : (nI x + 5) + (5 * nI g) = nI (x + 5 + 5 * g) := by
  rw [l5, nI_add, pk_mul, nI_add]
theorem gixk (x g k : Nat) : ((nI x + 5) + (5 * nI g)) + nI k = nI (x + 5 + 5 * g + k) := by
  rw [gix, nI_add]
theorem e_MdoneIn {S : st_S} {x n g s w : Nat} {γ : Nat → gt} (hR : Rg S x n γ) (hg : g < n) (ok : gok w (γ g)) (hw : w ≤ 6) (hs : s < 64) (hx : x + 5 + 5 * g + 4 < 1617) {Q : aw_R} : tr_X7_doneIn [.ref 58, .int (nI x), .int (nI g), .int (nI s)] (hp S) Q = Q (some (.int (nI (gact (γ g) s)))) (hp S) := by
  obtain ⟨r0, r1, r2, r3, r4⟩ := hR g hg
  rw [propext tq_X7_doneIn]
  unfold sm_X7_doneIn_0
  rw [m_0, show ((nI x + 5) + (5 * nI g)) + 4 = nI (x + 5 + 5 * g + 4) from gixk x g 4, m_wn hx, r4]
  have hd := ok.2.2.2.2.1
  rcases (show (γ g).2.2.2.2 = 0 ∨ (γ g).2.2.2.2 = 1 by omega) with q | q
  · rw [q, if_pos (by decide), m_0, gix, m_wn (by omega), r0, m_0, show nI (x + 5 + 5 * g) + 1 = nI (x + 5 + 5 * g + 1) from nI_1 _, m_wn (by omega), r1, m_0, show nI (x + 5 + 5 * g) + 2 = nI (x + 5 + 5 * g + 2) from nI_add _ 2, m_wn (by omega), r2, m_0, show nI (x + 5 + 5 * g) + 3 = nI (x + 5 + 5 * g + 3) from nI_add _ 3, m_wn (by omega), r3]
    have e : γ g = ((γ g).1, (γ g).2.1, (γ g).2.2.1, (γ g).2.2.2.1, 0) := by rw [← q]
    have ok' : gok w ((γ g).1, (γ g).2.1, (γ g).2.2.1, (γ g).2.2.2.1, 0) := by rw [← e]; exact ok
    rw [e_doneBy ok' hw hs, ← e]
    simp only [sr_I]
  · rw [q, if_neg (fun z => z rfl)]
    have : gact (γ g) s = s := by unfold gact; rw [if_pos q]
    rw [this]
theorem i_MrunIn {S : st_S} {x n s w : Nat} {γ : Nat → gt} (hR : Rg S x n γ) (hn : S.2.1 59 1 = nI n) (hn16 : n ≤ 16) (ok : ∀ g, g < n → gok w (γ g)) (hw : w ≤ 6) (hs : s < 64) (hx : x + 85 ≤ 1617) {Q : aw_R} (hq : Q (some (.int (nI (grun γ n s)))) (hp S)) : tr_X7_runIn [.ref 58, .int (nI x), .int (nI s)] (hp S) Q := by
  rw [tq_X7_runIn]
  intro K5 r5
  have main : ∀ m g, g + m = n → K5 58 (nI x) (nI (grun γ g s)) (nI g) (hp S) := by
    intro m
    induction m with
    | zero =>
      intro g e
      apply r5
      unfold sm_X7_runIn_5
      rw [m_0, show (sa_I (hp S) 59 1 _) = _ from m_wn (n := 1) (by omega), hn, if_pos (nI_le (by omega) (by omega)), show g = n by omega]
      exact hq
    | succ m ih =>
      intro g e
      apply r5
      unfold sm_X7_runIn_5
      rw [m_0, show (sa_I (hp S) 59 1 _) = _ from m_wn (n := 1) (by omega), hn, if_neg (nI_ge (by omega) (by omega)), m_v, e_MdoneIn hR (by omega) (ok g (by omega)) hw (grun_lt hw (fun g' h' => ok g' (by omega)) hs) (by omega)]
      simp only [sr_I]
      rw [nI_1]
      exact ih (g + 1) (by omega)
  exact main n 0 (by omega)
/-- a stretch of w is copied -/
def wcp (f : Nat → Int32) (x y m : Nat) : Nat → Int32 := fun k => if y ≤ k ∧ k < y + m then f (x + (k - y)) else f k
theorem wcp_in {f : Nat → Int32} {x y m k : Nat} (h : y ≤ k ∧ k < y + m) : wcp f x y m k = f (x + (k - y)) := if_pos h
theorem wcp_out {f : Nat → Int32} {x y m k : Nat} (h : ¬ (y ≤ k ∧ k < y + m)) : wcp f x y m k = f k := if_neg h
theorem i_copyRow {S : st_S} {x y m : Nat} (hx : x + m ≤ 1617) (hy : y + m ≤ 1617) (hd : x + m ≤ y ∨ y + m ≤ x) {Q : aw_R} (hq : Q none (hp (sF S 59 (wcp (S.2.1 59) x y m)))) : tr_X7_copyRow [.ref 58, .int (nI x), .int (nI y), .int (nI m)] (hp S) Q := by
  rw [tq_X7_copyRow]
  intro K3 r3
  have main : ∀ r k, k + r = m → K3 58 (nI x) (nI y) (nI m) (nI k) (hp (sF S 59 (wcp (S.2.1 59) x y k))) := by
    intro r
    induction r with
    | zero =>
      intro k e
      apply r3
      unfold sm_X7_copyRow_3
      rw [if_pos (nI_le (by omega) (by omega)), show k = m by omega]
      exact hq
    | succ r ih =>
      intro k e
      apply r3
      unfold sm_X7_copyRow_3
      rw [if_neg (nI_ge (by omega) (by omega)), m_0, m_0, nI_add, m_wn (by omega), nI_add, m_wsn (by omega), nI_1, sF_at, sA_F, sF_F, sF_at]
      have e1 : upd (wcp (S.2.1 59) x y k) (y + k) (wcp (S.2.1 59) x y k (x + k)) = wcp (S.2.1 59) x y (k + 1) := by
        funext j
        by_cases hj : j = y + k
        · subst hj
          rw [pk_us, wcp_out (by omega), wcp_in (by omega), show x + (y + k - y) = x + k by omega]
        · rw [pk_un hj]
          unfold wcp
          by_cases h1 : y ≤ j ∧ j < y + k
          · rw [if_pos h1, if_pos (by omega)]
          · rw [if_neg h1, if_neg (by omega)]
      rw [e1]
      exact ih (k + 1) (by omega)
  have h0 : sF S 59 (wcp (S.2.1 59) x y 0) = S := by
    have : wcp (S.2.1 59) x y 0 = S.2.1 59 := by
      funext j
      exact wcp_out (by omega)
    rw [this, sF_self]
  have := main m 0 (by omega)
  rw [h0] at this
  exact this
/-- the rows of the reference, told by what w holds -/
def wrow (f : Nat → Int32) (x : Nat) (B : bd) : Prop := f x = nI (bW B) ∧ f (x + 1) = nI (bN B) ∧ f (x + 2) = nI (bB B) ∧ f (x + 3) = nI (bP B) ∧ f (x + 4) = nI (bD B) ∧ ∀ g, g < bN B → f (x + 5 + 5 * g) = nI (bG B g).1 ∧ f (x + 5 + 5 * g + 1) = nI (bG B g).2.1 ∧ f (x + 5 + 5 * g + 2) = nI (bG B g).2.2.1 ∧ f (x + 5 + 5 * g + 3) = nI (bG B g).2.2.2.1 ∧ f (x + 5 + 5 * g + 4) = nI (bG B g).2.2.2.2
theorem wrow.at {f f' : Nat → Int32} {x y : Nat} {B : bd} (h : wrow f x B) (hn : bN B ≤ 16) (e : ∀ k, k < 85 → f' (y + k) = f (x + k)) : wrow f' y B := by
  obtain ⟨h0, h1, h2, h3, h4, hg⟩ := h
  refine ⟨by rw [← h0]; exact e 0 (by omega), by rw [← h1]; exact e 1 (by omega), by rw [← h2]; exact e 2 (by omega), by rw [← h3]; exact e 3 (by omega), by rw [← h4]; exact e 4 (by omega), fun g hg' => ?_⟩
  obtain ⟨a0, a1, a2, a3, a4⟩ := hg g hg'
  have e' : ∀ k, k < 5 → f' (y + 5 + 5 * g + k) = f (x + 5 + 5 * g + k) := fun k hk => by
    have := e (5 + 5 * g + k) (by omega)
    rw [show y + (5 + 5 * g + k) = y + 5 + 5 * g + k by omega, show x + (5 + 5 * g + k) = x + 5 + 5 * g + k by omega] at this
    exact this
  exact ⟨by rw [← a0]; exact e' 0 (by omega), by rw [← a1]; exact e' 1 (by omega), by rw [← a2]; exact e' 2 (by omega), by rw [← a3]; exact e' 3 (by omega), by rw [← a4]; exact e' 4 (by omega)⟩
/-- the past of the reference, told by what w holds -/
def wpast (f : Nat → Int32) (x : Nat) (l : List bd) : Prop := l.length ≤ 8 ∧ f (x + 765) = nI l.length ∧ ∀ (j : Nat) (B : bd), l[j]? = some B → wrow f (x + 85 + 85 * (l.length - 1 - j)) B
theorem Br.w {S : st_S} {x : Nat} {B : bd} : Br S x B ↔ wrow (S.2.1 59) x B := Iff.rfl
theorem Pr.w {S : st_S} {x : Nat} {l : List bd} : Pr S x l ↔ wpast (S.2.1 59) x l := Iff.rfl
/-- remember -/
theorem i_remember {S : st_S} {B : bd} {l : List bd} (hB : Br S 0 B) (ok : Bok B) (okl : ∀ (j : Nat) (C : bd), l[j]? = some C → Bok C) (hl : Pr S 0 l) {Q : aw_R} (hq : ∀ f, (∀ k, k < 85 → f k = S.2.1 59 k) → (∀ k, 766 ≤ k → f k = S.2.1 59 k) → wpast f 0 ((B :: l).take 8) → Q none (hp (sF S 59 f))) : tr_X7_remember [.ref 58] (hp S) Q := by
  rw [tq_X7_remember]
  intro K15 r15
  obtain ⟨hl8, hlen, hrow⟩ := hl
  rw [Nat.zero_add] at hlen
  -- the end: row 0 is laid behind the n rows that stand
  have fin : ∀ (f : Nat → Int32) (l' : List bd), l'.length < 8 → (∀ k, k < 85 → f k = S.2.1 59 k) → (∀ k, 766 ≤ k → f k = S.2.1 59 k) → wpast f 0 l' → (B :: l).take 8 = B :: l' → sm_X7_remember_59 K15 Q 58 (hp (sF S 59 f)) := by
    intro f l' hl' h0 h1 hp' e
    obtain ⟨-, p1, p2⟩ := hp'
    rw [Nat.zero_add] at p1
    unfold sm_X7_remember_59
    rw [m_0, show (sa_I (hp (sF S 59 f)) 59 765 _) = _ from m_wn (n := 765) (by omega), sF_at, p1, m_v, show (85 : Int32) + 85 * nI l'.length = nI (85 + 85 * l'.length) by rw [show (85 : Int32) = nI 85 from rfl, pk_mul, nI_add]]
    refine i_copyRow (x := 0) (m := 85) (by omega) (by omega) (by omega) ?_
    simp only [sr_V]
    rw [m_0, show (sa_I (hp _) 59 765 _) = _ from m_wn (n := 765) (by omega), sF_at, sF_at, sF_F, wcp_out (by omega), p1, show (ss_I (hp _) 59 765 _ _) = _ from m_wsn (n := 765) (by omega), sA_F, sF_F, sF_at, nI_1]
    refine hq _ (fun k hk => ?_) (fun k hk => ?_) ?_
    · rw [pk_un (by omega), wcp_out (by omega), h0 k hk]
    · rw [pk_un (by omega), wcp_out (by omega), h1 k hk]
    · rw [e]
      refine ⟨by simp; omega, by rw [Nat.zero_add, pk_us]; simp, fun j C hj => ?_⟩
      cases j with
      | zero =>
        simp at hj
        subst hj
        have hB' : wrow (S.2.1 59) 0 B := hB
        refine hB'.at ok.2.1 (fun k hk => ?_)
        rw [show 0 + 85 + 85 * ((B :: l').length - 1 - 0) + k = 85 + 85 * l'.length + k by simp, pk_un (by omega), wcp_in (by omega), show 0 + (85 + 85 * l'.length + k - (85 + 85 * l'.length)) = k by omega, Nat.zero_add, h0 k hk]
      | succ j =>
        have hj' : l'[j]? = some C := by simpa using hj
        have hjl : j < l'.length := (List.getElem?_eq_some_iff.mp hj').1
        have okC : bN C ≤ 16 := by
          have : ((B :: l).take 8)[j + 1]? = some C := by rw [e]; simpa using hj'
          rw [List.getElem?_take] at this
          split at this
          · exact (okl j C (by simpa using this)).2.1
          · cases this
        refine (p2 j C hj').at okC (fun k hk => ?_)
        rw [show 0 + 85 + 85 * ((B :: l').length - 1 - (j + 1)) + k = 0 + 85 + 85 * (l'.length - 1 - j) + k by simp; omega, pk_un (by omega), wcp_out (by omega)]
  unfold sm_X7_remember_0
  rw [m_0, show (sa_I (hp S) 59 765 _) = _ from m_wn (n := 765) (by omega), hlen]
  by_cases h8 : l.length = 8
  · rw [h8, if_neg (fun q => q rfl)]
    have main : ∀ r k, k + r = 595 → K15 58 (nI k) (hp (sF S 59 (wcp (S.2.1 59) 170 85 k))) := by
      intro r
      induction r with
      | zero =>
        intro k e
        apply r15
        unfold sm_X7_remember_15
        rw [if_pos (show (595 : Int32) ≤ nI k from nI_le (a := 595) (by omega) (by omega)), m_0, show (sa_I (hp _) 59 765 _) = _ from m_wn (n := 765) (by omega), show (ss_I (hp _) 59 765 _ _) = _ from m_wsn (n := 765) (by omega), sA_F, sF_F, sF_at, wcp_out (by omega), hlen, show nI l.length - 1 = nI (l.length - 1) from pk_sub (a := l.length) (b := 1) (by omega)]
        refine fin _ (l.take 7) (by simp; omega) (fun j hj => ?_) (fun j hj => ?_) ⟨by simp; omega, ?_, fun j C hj => ?_⟩ (by simp)
        · rw [pk_un (by omega), wcp_out (by omega)]
        · rw [pk_un (by omega), wcp_out (by omega)]
        · rw [Nat.zero_add, pk_us]
          simp [h8]
        · rw [List.getElem?_take] at hj
          by_cases hj7 : j < 7
          · rw [if_pos hj7] at hj
            have hr : wrow (S.2.1 59) (0 + 85 + 85 * (l.length - 1 - j)) C := hrow j C hj
            refine hr.at (okl j C hj).2.1 (fun i hi => ?_)
            rw [show 0 + 85 + 85 * ((l.take 7).length - 1 - j) + i = 85 + 85 * (6 - j) + i by simp; omega, show 0 + 85 + 85 * (l.length - 1 - j) + i = 85 + 85 * (7 - j) + i by omega, pk_un (by omega), wcp_in (by omega), show 170 + (85 + 85 * (6 - j) + i - 85) = 85 + 85 * (7 - j) + i by omega]
          · rw [if_neg hj7] at hj
            cases hj
      | succ r ih =>
        intro k e
        apply r15
        unfold sm_X7_remember_15
        rw [if_neg (show ¬ (595 : Int32) ≤ nI k from nI_ge (b := 595) (by omega) (by omega)), m_0, m_0, show (170 : Int32) + nI k = nI (170 + k) from nI_add 170 k, m_wn (by omega), show (85 : Int32) + nI k = nI (85 + k) from nI_add 85 k, m_wsn (by omega), nI_1, sA_F, sF_F, sF_at]
        have e1 : upd (wcp (S.2.1 59) 170 85 k) (85 + k) (wcp (S.2.1 59) 170 85 k (170 + k)) = wcp (S.2.1 59) 170 85 (k + 1) := by
          funext j
          by_cases hj : j = 85 + k
          · subst hj
            rw [pk_us, wcp_out (by omega), wcp_in (by omega), show 170 + (85 + k - 85) = 170 + k by omega]
          · rw [pk_un hj]
            unfold wcp
            by_cases h1 : 85 ≤ j ∧ j < 85 + k
            · rw [if_pos h1, if_pos (by omega)]
            · rw [if_neg h1, if_neg (by omega)]
        rw [e1]
        exact ih (k + 1) (by omega)
    have h0 : sF S 59 (wcp (S.2.1 59) 170 85 0) = S := by
      have : wcp (S.2.1 59) 170 85 0 = S.2.1 59 := by
        funext j
        exact wcp_out (by omega)
      rw [this, sF_self]
    have := main 595 0 (by omega)
    rw [h0] at this
    exact this
  · rw [if_pos (show ¬ nI l.length = 8 from fun q => h8 ((nI_eq (a := l.length) (b := 8) (by omega) (by omega)).mp q))]
    have := fin (S.2.1 59) l (by omega) (fun _ _ => rfl) (fun _ _ => rfl) ⟨hl8, by rw [Nat.zero_add]; exact hlen, hrow⟩ (by rw [List.take_of_length_le]; simp; omega)
    rw [sF_self] at this
    exact this
