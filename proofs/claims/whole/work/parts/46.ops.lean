/-! THE CALLS, both sides at once: same answer, same state behind -/
def Wf (σ : sg) : Prop := Bok σ.1 ∧ σ.2.1.length ≤ 8 ∧ (∀ (j : Nat) (B : bd), σ.2.1[j]? = some B → Bok B) ∧ (∀ b l, σ.2.2.1 = some (b, l) → Bok b ∧ l.length ≤ 8 ∧ ∀ (j : Nat) (B : bd), l[j]? = some B → Bok B) ∧ (σ.2.2.2.1.1 ≤ 110 ∧ ∀ j, j < σ.2.2.2.1.1 → 32 ≤ σ.2.2.2.1.2 j ∧ σ.2.2.2.1.2 j ≤ 126) ∧ ∀ i, i < 4 → ∀ la n f, σ.2.2.2.2 i = some (la, n, f) → la < 4 ∧ n ≤ 24
theorem CI.wf {S : st_S} {σ : sg} (h : CI S σ) : Wf σ := by
  obtain ⟨h1, h2, h3, h4, h5⟩ := h
  refine ⟨h1.1, h2.1, fun j B hj => ?_, fun b l e => ?_, ⟨h4.1, fun j hj => (h4.2.2 j hj).1⟩, fun i hi la n f e => ?_⟩
  · obtain ⟨-, nx, -, -, -, g⟩ := h2
    exact (g j B hj).1
  · rw [e] at h3
    obtain ⟨-, g1, g2⟩ := h3
    refine ⟨g1.1, g2.1, fun j B hj => ?_⟩
    obtain ⟨-, nx, -, -, -, g⟩ := g2
    exact (g j B hj).1
  · have := h5 i hi
    rw [e] at this
    exact ⟨this.1, this.2.1⟩
def OpC (y : aw_T) (σ : sg) (as : List Value) (a : Int32) (σ' : sg) : Prop := ∀ (S : st_S) (Q : aw_R), CI S σ → (∀ S', Fc S S' → CI S' σ' → Q (some (.int a)) (hp S')) → y (.ref 0 :: as) (hp S) Q
def OpM (y : aw_T) (σ : sg) (as : List Value) (a : Int32) (σ' : sg) : Prop := ∀ (S : st_S) (Q : aw_R), MI S σ → (∀ S', Fm S S' → MI S' σ' → Q (some (.int a)) (hp S')) → y (.ref 58 :: as) (hp S) Q
def Op (yc ym : aw_T) (σ : sg) (as : List Value) : Prop := ∃ a σ', OpC yc σ as a σ' ∧ OpM ym σ as a σ'
theorem Fc.rf (S : st_S) : Fc S S := fun q _ => Sa.rf S q
theorem Fm.rf (S : st_S) : Fm S S := fun q _ => Sa.rf S q
theorem Fc.tr {S S' S'' : st_S} (h : Fc S S') (h' : Fc S' S'') : Fc S S'' := fun q hq => (h q hq).tr (h' q hq)
theorem Fm.tr {S S' S'' : st_S} (h : Fm S S') (h' : Fm S' S'') : Fm S S'' := fun q hq => (h q hq).tr (h' q hq)
theorem Sx.fc {ps : List Nat} {S S' : st_S} (h : Sx ps S S') (hs : ∀ q ∈ ps, q < 58) : Fc S S' := fun q hq => h q (fun z => by have := hs q z; omega)
theorem Sr.fc {lo hi : Nat} {S S' : st_S} (h : Sr lo hi S S') (hs : hi ≤ 58) : Fc S S' := fun q hq => h q (by omega)
theorem Fm.F {S : st_S} {p : Nat} {f : Nat → Int32} (h : 58 ≤ p) : Fm S (sF S p f) := fun q hq => ⟨rfl, sF_ne S f (by omega), rfl⟩
theorem Fm.I {S : st_S} {p k : Nat} {v : Int32} (h : 58 ≤ p) : Fm S (sI S p k v) := fun q hq => ⟨funext fun j => sI_ne S v (by omega), rfl, rfl⟩
theorem Fm.G {S : st_S} {p : Nat} {f : Nat → Int64} (h : 58 ≤ p) : Fm S (sG S p f) := fun q hq => ⟨rfl, rfl, by show (if q = p then f else S.2.2 q) = _; rw [if_neg (by omega)]⟩
theorem CI.upd {S S' : st_S} {σ : sg} {B : bd} {l : List bd} (h : CI S σ) (hs : ∀ q, (q = 0 ∨ 21 ≤ q) → q < 58 → Sa S S' q) (hB : Bok B ∧ Bo S' 1 B) (hP : Po S' 3 l) : CI S' (B, l, σ.2.2) := by
  obtain ⟨h1, h2, h3, h4, h5⟩ := h
  refine ⟨hB, hP, ?_, ?_, ?_⟩
  · have f0 := hs 0 (Or.inl rfl) (by decide)
    show (match σ.2.2.1 with
      | none => S'.1 0 5 = 0
      | some (b, l) => S'.1 0 5 = 1 ∧ (Bok b ∧ Bo S' 21 b) ∧ Po S' 23 l)
    split
    · rename_i e
      rw [e] at h3
      rw [f0.1]
      exact h3
    · rename_i b l e
      rw [e] at h3
      rw [f0.1]
      exact ⟨h3.1, ⟨h3.2.1.1, h3.2.1.2.kept (hs _ (by omega) (by omega)) (hs _ (by omega) (by omega))⟩, h3.2.2.kept (fun q _ h => hs q (by omega) (by omega))⟩
  · show To S' σ.2.2.2.1
    unfold To
    rw [(hs 41 (by omega) (by decide)).1, (hs 42 (by omega) (by decide)).2.1]
    exact h4
  · intro i hi
    exact (h5 i hi).kept (hs _ (by omega) (by omega)) (hs _ (by omega) (by omega))
theorem MI.upd {S S' : st_S} {σ : sg} {B : bd} {l : List bd} (h : MI S σ) (wf : Wf σ) (hf : ∀ k, 766 ≤ k → k < 1532 → S'.2.1 59 k = S.2.1 59 k) (h1 : S'.1 58 1 = S.1 58 1) (h3 : S'.1 58 3 = S.1 58 3) (h60 : S'.2.1 60 = S.2.1 60) (h61 : S'.2.2 61 = S.2.2 61) (h62 : S'.2.1 62 = S.2.1 62) (h63 : S'.2.1 63 = S.2.1 63) (hB : Br S' 0 B) (hP : Pr S' 0 l) : MI S' (B, l, σ.2.2) := by
  obtain ⟨g1, g2, g3, g4, g5⟩ := h
  refine ⟨hB, hP, ?_, ?_, ?_⟩
  · show (match σ.2.2.1 with
      | none => S'.1 58 1 = 0
      | some (b, l) => S'.1 58 1 = 1 ∧ Br S' 766 b ∧ Pr S' 766 l)
    split
    · rename_i e
      rw [e] at g3
      rw [h1]
      exact g3
    · rename_i b l e
      rw [e] at g3
      obtain ⟨w1, w2, w3⟩ := wf.2.2.2.1 b l e
      obtain ⟨g31, g32, g33⟩ := g3
      refine ⟨by rw [h1]; exact g31, ?_, ?_⟩
      · exact wrow.at (f := S.2.1 59) (f' := S'.2.1 59) g32 w1.2.1 (fun k hk => hf _ (by omega) (by omega))
      · obtain ⟨a, c, d⟩ := g33
        refine ⟨a, by rw [hf _ (by omega) (by omega)]; exact c, fun j C hj => ?_⟩
        have hjl : j < l.length := (List.getElem?_eq_some_iff.mp hj).1
        exact wrow.at (f := S.2.1 59) (f' := S'.2.1 59) (d j C hj) (w3 j C hj).2.1 (fun k hk => hf _ (by omega) (by omega))
  · show Tm S' σ.2.2.2.1
    unfold Tm
    rw [h3, h60]
    exact g4
  · intro i hi
    have := g5 i hi
    show Hm S' i (σ.2.2.2.2 i)
    unfold Hm at this ⊢
    rw [h61, h62, h63]
    exact this
/-- only w changed, and not the image -/
theorem MI.w {S : st_S} {σ : sg} {B : bd} {l : List bd} {f : Nat → Int32} (h : MI S σ) (wf : Wf σ) (hf : ∀ k, 766 ≤ k → k < 1532 → f k = S.2.1 59 k) (hB : wrow f 0 B) (hP : wpast f 0 l) : MI (sF S 59 f) (B, l, σ.2.2) := by
  refine h.upd wf (fun k h1 h2 => by rw [sF_at]; exact hf k h1 h2) rfl rfl rfl rfl rfl rfl ?_ ?_
  · exact hB
  · exact hP
theorem c_0 {S : st_S} {K : Nat → Prop} : sg_R (hp S) 0 5 1 K = K 1 := hq_R (p := 0) rfl rfl
theorem c_1 {S : st_S} {K : Nat → Prop} : sg_R (hp S) 0 5 2 K = K 3 := hq_R (p := 0) rfl rfl
theorem c_2 {S : st_S} {K : Nat → Prop} : sg_R (hp S) 0 5 3 K = K 21 := hq_R (p := 0) rfl rfl
theorem c_3 {S : st_S} {K : Nat → Prop} : sg_R (hp S) 0 5 4 K = K 23 := hq_R (p := 0) rfl rfl
theorem c_5 {S : st_S} {K : Nat → Prop} : sg_R (hp S) 0 5 6 K = K 41 := hq_R (p := 0) rfl rfl
theorem c_6 {S : st_S} {K : Nat → Prop} : sg_R (hp S) 0 5 7 K = K 43 := hq_R (p := 0) rfl rfl
theorem c_7 {S : st_S} {K : Nat → Prop} : sg_R (hp S) 0 5 0 K = K 45 := hq_R (p := 0) rfl rfl
theorem c_8 {S : st_S} {K : Nat → Prop} : sg_R (hp S) 0 5 8 K = K 49 := hq_R (p := 0) rfl rfl
theorem c_v {S : st_S} {A : Prop} : sv_O (hp S) 0 5 A = A := hv_O (p := 0) rfl (by decide)
theorem b_v {S : st_S} {A : Prop} : sv_O (hp S) 1 0 A = A := hv_O (p := 1) rfl (by decide)
theorem p_v {S : st_S} {A : Prop} : sv_O (hp S) 3 2 A = A := hv_O (p := 3) rfl (by decide)
theorem k1 : kd 1 = 0 := rfl
theorem k3 : kd 3 = 2 := rfl
theorem cin {x : Int32} {n : Nat} (hn : n < 2 ^ 31) {P : Int32 → Prop} : (if x < 0 then P 0 else if nI n ≤ x then P 0 else P 1) = P (inb x 0 (nI n - 1)) := by
  rcases inb_nat (x := x) hn with ⟨j, hj, rfl, e⟩ | ⟨h, e⟩
  · rw [e, if_neg (nI_pos (by omega)), if_neg (nI_ge hj hn)]
  · rw [e]
    rcases pk_ix x hn with h1 | h1 | ⟨j, hj, h1⟩
    · rw [if_pos h1]
    · rw [if_pos h1]
      split <;> rfl
    · exact absurd h1 (h j hj)
theorem e_CisGate {S : st_S} {B : bd} (hB : Bo S 1 B) (ok : Bok B) {x : Int32} {Q : aw_R} : tr_X6_isGate [.ref 0, .int x] (hp S) Q = Q (some (.int (inb x 0 (nI (bN B) - 1)))) (hp S) := by
  rw [propext tq_X6_isGate]
  unfold sm_X6_isGate_0
  rw [c_0, hq_I (k := 1) k1 rfl, hB.2.1, cin (P := fun v => Q (some (.int v)) (hp S)) (by have := ok.2.1; omega)]
theorem e_CisWire {S : st_S} {B : bd} (hB : Bo S 1 B) (ok : Bok B) {x : Int32} {Q : aw_R} : tr_X6_isWire [.ref 0, .int x] (hp S) Q = Q (some (.int (inb x 0 (nI (bW B) - 1)))) (hp S) := by
  rw [propext tq_X6_isWire]
  unfold sm_X6_isWire_0
  rw [c_0, hq_I (k := 0) k1 rfl, hB.1, cin (P := fun v => Q (some (.int v)) (hp S)) (by have := ok.1; omega)]
theorem e_CisState {S : st_S} {B : bd} (hB : Bo S 1 B) (ok : Bok B) {x : Int32} {Q : aw_R} : tr_X6_isState [.ref 0, .int x] (hp S) Q = Q (some (.int (inb x 0 (nI (2 ^ bW B) - 1)))) (hp S) := by
  rw [propext tq_X6_isState]
  unfold sm_X6_isState_0
  rw [c_0, b_v, e_Bstates k1 hB ok]
  simp only [sr_I]
  rw [cin (P := fun v => Q (some (.int v)) (hp S)) (by have := pw_le ok.1.2; omega)]
/-- both refuse -/
theorem Op.same {yc ym : aw_T} {σ : sg} {as : List Value} (a : Int32) (h1 : ∀ S Q, CI S σ → Q (some (.int a)) (hp S) → yc (.ref 0 :: as) (hp S) Q) (h2 : ∀ S Q, MI S σ → Q (some (.int a)) (hp S) → ym (.ref 58 :: as) (hp S) Q) : Op yc ym σ as := ⟨a, σ, fun S Q h hq => h1 S Q h (hq S (Fc.rf S) h), fun S Q h hq => h2 S Q h (hq S (Fm.rf S) h)⟩
theorem op_seed {σ : sg} (wf : Wf σ) (x : Int32) : Op tr_X6_seed tr_X7_seed σ [.int x] := by
  by_cases hx : 0 ≤ x
  · obtain ⟨v, hv, rfl⟩ := nI_of (x := x) (by rw [Int32.lt_iff_toInt_lt]; have := Int32.le_iff_toInt_le.mp hx; omega)
    refine ⟨nI (bD σ.1), ((bW σ.1, bN σ.1, bB σ.1, bP σ.1, v, bG σ.1), σ.2.1, σ.2.2), fun S Q h hq => ?_, fun S Q h hq => ?_⟩
    · rw [tq_X6_seed]
      unfold sm_X6_seed_0
      obtain ⟨ok, hB⟩ := h.1
      rw [if_pos hx, c_0, hq_I (k := 5) k1 rfl, hB.2.2.2.2.1, c_0, hq_P (k := 5) k1 rfl]
      refine hq _ ((Sx.I (ps := [1]) (by simp)).fc (by simp)) (h.upd (fun q h1 h2 => Sa.I (by omega)) ⟨?_, ?_⟩ (h.2.1.kept (fun q h1 h2 => Sa.I (by omega))))
      · exact ⟨ok.1, ok.2.1, ok.2.2.1, ok.2.2.2.1, hv, ok.2.2.2.2.2⟩
      · obtain ⟨a0, a1, a3, a4, a5, ag⟩ := hB
        exact ⟨by simp [sI, a0], by simp [sI, a1], by simp [sI, a3], by simp [sI, a4], by simp [sI], ag⟩
    · rw [tq_X7_seed]
      unfold sm_X7_seed_0
      have hB := h.1
      rw [if_pos hx, m_0, show (sa_I (hp S) 59 4 _) = _ from m_wn (n := 4) (by omega), hB.2.2.2.2.1, m_0, show (ss_I (hp S) 59 4 _ _) = _ from m_wsn (n := 4) (by omega), sA_F]
      refine hq _ (Fm.F (by omega)) (h.w wf (fun k h1 h2 => pk_un (by omega)) ?_ ?_)
      · obtain ⟨a0, a1, a2, a3, a4, ag⟩ := hB
        refine ⟨by rw [pk_un (by omega)]; exact a0, by rw [pk_un (by omega)]; exact a1, by rw [pk_un (by omega)]; exact a2, by rw [pk_un (by omega)]; exact a3, by rw [pk_us], fun g hg => ?_⟩
        obtain ⟨b0, b1, b2, b3, b4⟩ := ag g hg
        exact ⟨by rw [pk_un (by omega)]; exact b0, by rw [pk_un (by omega)]; exact b1, by rw [pk_un (by omega)]; exact b2, by rw [pk_un (by omega)]; exact b3, by rw [pk_un (by omega)]; exact b4⟩
      · obtain ⟨p0, p1, p2⟩ := h.2.1
        refine ⟨p0, by rw [pk_un (by omega)]; exact p1, fun j C hj => ?_⟩
        exact wrow.at (f := S.2.1 59) (p2 j C hj) (wf.2.2.1 j C hj).2.1 (fun k hk => pk_un (by omega))
  · refine Op.same (-1) (fun S Q h hq => ?_) (fun S Q h hq => ?_)
    · rw [tq_X6_seed]
      unfold sm_X6_seed_0
      rw [if_neg hx]
      exact hq
    · rw [tq_X7_seed]
      unfold sm_X7_seed_0
      rw [if_neg hx]
      exact hq
