/-! WHAT IS HELD: the state of the document, and how the class and the reference hold it -/
/-- wires, gates, the bits, where they stand, the draw; the gates -/
abbrev bd : Type := Nat × Nat × Nat × Nat × Nat × (Nat → gt)
abbrev bW (B : bd) : Nat := B.1
abbrev bN (B : bd) : Nat := B.2.1
abbrev bB (B : bd) : Nat := B.2.2.1
abbrev bP (B : bd) : Nat := B.2.2.2.1
abbrev bD (B : bd) : Nat := B.2.2.2.2.1
abbrev bG (B : bd) : Nat → gt := B.2.2.2.2.2
def Bok (B : bd) : Prop := (2 ≤ bW B ∧ bW B ≤ 6) ∧ bN B ≤ 16 ∧ bB B < 2 ^ bW B ∧ bP B ≤ bN B ∧ bD B < 2 ^ 31 ∧ ∀ g, g < bN B → gok (bW B) (bG B g)
/-- the class's board at place p -/
def Bo (S : st_S) (p : Nat) (B : bd) : Prop := S.1 p 0 = nI (bW B) ∧ S.1 p 1 = nI (bN B) ∧ S.1 p 3 = nI (bB B) ∧ S.1 p 4 = nI (bP B) ∧ S.1 p 5 = nI (bD B) ∧ ∀ g, g < bN B → S.2.1 (p + 1) g = nI (gpk (bG B g))
/-- the reference's row from x on -/
def Br (S : st_S) (x : Nat) (B : bd) : Prop := S.2.1 59 x = nI (bW B) ∧ S.2.1 59 (x + 1) = nI (bN B) ∧ S.2.1 59 (x + 2) = nI (bB B) ∧ S.2.1 59 (x + 3) = nI (bP B) ∧ S.2.1 59 (x + 4) = nI (bD B) ∧ ∀ g, g < bN B → S.2.1 59 (x + 5 + 5 * g) = nI (bG B g).1 ∧ S.2.1 59 (x + 5 + 5 * g + 1) = nI (bG B g).2.1 ∧ S.2.1 59 (x + 5 + 5 * g + 2) = nI (bG B g).2.2.1 ∧ S.2.1 59 (x + 5 + 5 * g + 3) = nI (bG B g).2.2.2.1 ∧ S.2.1 59 (x + 5 + 5 * g + 4) = nI (bG B g).2.2.2.2
/-- the two states agree at a place -/
def Sa (S S' : st_S) (q : Nat) : Prop := S'.1 q = S.1 q ∧ S'.2.1 q = S.2.1 q ∧ S'.2.2 q = S.2.2 q
/-- .. at all places but those listed -/
def Sx (ps : List Nat) (S S' : st_S) : Prop := ∀ q, q ∉ ps → Sa S S' q
theorem Sa.rf (S : st_S) (q : Nat) : Sa S S q := ⟨rfl, rfl, rfl⟩
theorem Sa.tr {S S' S'' : st_S} {q : Nat} (h : Sa S S' q) (h' : Sa S' S'' q) : Sa S S'' q := ⟨h'.1.trans h.1, h'.2.1.trans h.2.1, h'.2.2.trans h.2.2⟩
theorem Sx.rf (ps : List Nat) (S : st_S) : Sx ps S S := fun q _ => Sa.rf S q
theorem Sx.tr {ps : List Nat} {S S' S'' : st_S} (h : Sx ps S S') (h' : Sx ps S' S'') : Sx ps S S'' := fun q hq => (h q hq).tr (h' q hq)
theorem Sx.mono {ps qs : List Nat} {S S' : st_S} (h : Sx ps S S') (hs : ∀ q ∈ ps, q ∈ qs) : Sx qs S S' := fun q hq => h q (fun z => hq (hs q z))
theorem Sx.I {S : st_S} {p k : Nat} {v : Int32} {ps : List Nat} (hp : p ∈ ps) : Sx ps S (sI S p k v) := fun q hq => ⟨funext fun j => sI_ne S v (fun z => hq (z.1 ▸ hp)), rfl, rfl⟩
theorem Sx.F {S : st_S} {p : Nat} {f : Nat → Int32} {ps : List Nat} (hp : p ∈ ps) : Sx ps S (sF S p f) := fun q hq => ⟨rfl, sF_ne S f (fun z => hq (z ▸ hp)), rfl⟩
theorem Sx.A {S : st_S} {p j : Nat} {v : Int32} {ps : List Nat} (hp : p ∈ ps) : Sx ps S (sA S p j v) := Sx.F hp
theorem Sx.G {S : st_S} {p : Nat} {f : Nat → Int64} {ps : List Nat} (hp : p ∈ ps) : Sx ps S (sG S p f) := fun q hq => ⟨rfl, rfl, by show (if q = p then f else S.2.2 q) = _; rw [if_neg (fun z : q = p => hq (z ▸ hp))]⟩
theorem Sx.L {S : st_S} {p j : Nat} {v : Int64} {ps : List Nat} (hp : p ∈ ps) : Sx ps S (sL S p j v) := Sx.G hp
theorem Bo.kept {S S' : st_S} {p : Nat} {B : bd} (h : Bo S p B) (h1 : Sa S S' p) (h2 : Sa S S' (p + 1)) : Bo S' p B := by
  unfold Bo
  rw [h1.1, h2.2.1]
  exact h
theorem Br.kept {S S' : st_S} {x : Nat} {B : bd} (h : Br S x B) (h1 : Sa S S' 59) : Br S' x B := by
  unfold Br
  rw [h1.2.1]
  exact h
/-- the state of the document: now, what may be undone (the latest first), the image, the tape (how many letters, which), the sheets (lane, size, items) -/
abbrev sg : Type := bd × List bd × Option (bd × List bd) × (Nat × (Nat → Nat)) × (Nat → Option (Nat × Nat × (Nat → Int64)))
/-- the class's past at place p -/
def Po (S : st_S) (p : Nat) (l : List bd) : Prop := l.length ≤ 8 ∧ ∃ nx, nx < 8 ∧ S.1 p 1 = nI nx ∧ S.1 p 2 = nI l.length ∧ ∀ (j : Nat) (B : bd), l[j]? = some B → Bok B ∧ Bo S (p + 2 + 2 * ((nx + 7 - j) % 8)) B
/-- the reference's past behind row x -/
def Pr (S : st_S) (x : Nat) (l : List bd) : Prop := l.length ≤ 8 ∧ S.2.1 59 (x + 765) = nI l.length ∧ ∀ (j : Nat) (B : bd), l[j]? = some B → Br S (x + 85 + 85 * (l.length - 1 - j)) B
def To (S : st_S) (t : Nat × (Nat → Nat)) : Prop := t.1 ≤ 110 ∧ S.1 41 1 = nI t.1 ∧ ∀ j, j < t.1 → (32 ≤ t.2 j ∧ t.2 j ≤ 126) ∧ S.2.1 42 j = nI (t.2 j)
def Tm (S : st_S) (t : Nat × (Nat → Nat)) : Prop := S.1 58 3 = nI t.1 ∧ ∀ j, j < t.1 → S.2.1 60 j = nI (t.2 j)
def Ho (S : st_S) (i : Nat) (s : Option (Nat × Nat × (Nat → Int64))) : Prop := match s with
  | none => S.1 (50 + 2 * i) 0 = 0
  | some (la, n, f) => la < 4 ∧ n ≤ 24 ∧ S.1 (50 + 2 * i) 0 = 1 ∧ S.1 (50 + 2 * i) 1 = nI la ∧ S.1 (50 + 2 * i) 2 = nI n ∧ ∀ j, j < n → S.2.2 (51 + 2 * i) j = f j
def Hm (S : st_S) (i : Nat) (s : Option (Nat × Nat × (Nat → Int64))) : Prop := match s with
  | none => S.2.1 63 i = -4
  | some (la, n, f) => S.2.1 63 i = nI n ∧ S.2.1 62 i = nI la ∧ ∀ j, j < n → S.2.2 61 (24 * i + j) = f j
/-- the class holds it -/
def CI (S : st_S) (σ : sg) : Prop := (Bok σ.1 ∧ Bo S 1 σ.1) ∧ Po S 3 σ.2.1 ∧ (match σ.2.2.1 with
    | none => S.1 0 5 = 0
    | some (b, l) => S.1 0 5 = 1 ∧ (Bok b ∧ Bo S 21 b) ∧ Po S 23 l) ∧ To S σ.2.2.2.1 ∧ ∀ i, i < 4 → Ho S i (σ.2.2.2.2 i)
/-- the reference holds it -/
def MI (S : st_S) (σ : sg) : Prop := Br S 0 σ.1 ∧ Pr S 0 σ.2.1 ∧ (match σ.2.2.1 with
    | none => S.1 58 1 = 0
    | some (b, l) => S.1 58 1 = 1 ∧ Br S 766 b ∧ Pr S 766 l) ∧ Tm S σ.2.2.2.1 ∧ ∀ i, i < 4 → Hm S i (σ.2.2.2.2 i)
/-- nothing of the reference's changed; nothing of the class's -/
def Fc (S S' : st_S) : Prop := ∀ q, 58 ≤ q → Sa S S' q
def Fm (S S' : st_S) : Prop := ∀ q, q < 58 → Sa S S' q
theorem Pr.kept {S S' : st_S} {x : Nat} {l : List bd} (h : Pr S x l) (h1 : Sa S S' 59) : Pr S' x l := by
  obtain ⟨a, b, c⟩ := h
  refine ⟨a, by rw [h1.2.1]; exact b, fun j B hj => (c j B hj).kept h1⟩
theorem Po.kept {S S' : st_S} {p : Nat} {l : List bd} (h : Po S p l) (h1 : ∀ q, p ≤ q → q < p + 18 → Sa S S' q) : Po S' p l := by
  obtain ⟨a, nx, b, c, d, e⟩ := h
  have hp := (h1 p (by omega) (by omega)).1
  refine ⟨a, nx, b, by rw [hp]; exact c, by rw [hp]; exact d, fun j B hj => ?_⟩
  obtain ⟨e1, e2⟩ := e j B hj
  exact ⟨e1, e2.kept (h1 _ (by omega) (by omega)) (h1 _ (by omega) (by omega))⟩
theorem MI.kept {S S' : st_S} {σ : sg} (h : MI S σ) (hf : Fc S S') : MI S' σ := by
  obtain ⟨h1, h2, h3, h4, h5⟩ := h
  have f58 := hf 58 (by decide)
  have f59 := hf 59 (by decide)
  have f60 := hf 60 (by decide)
  have f61 := hf 61 (by decide)
  have f62 := hf 62 (by decide)
  have f63 := hf 63 (by decide)
  refine ⟨h1.kept f59, h2.kept f59, ?_, ?_, ?_⟩
  · split
    · rename_i e
      rw [e] at h3
      rw [f58.1]
      exact h3
    · rename_i b l e
      rw [e] at h3
      rw [f58.1]
      exact ⟨h3.1, h3.2.1.kept f59, h3.2.2.kept f59⟩
  · unfold Tm
    rw [f58.1, f60.2.1]
    exact h4
  · intro i hi
    have := h5 i hi
    unfold Hm at this ⊢
    rw [f61.2.2, f62.2.1, f63.2.1]
    exact this
theorem Ho.kept {S S' : st_S} {i : Nat} {s : Option (Nat × Nat × (Nat → Int64))} (h : Ho S i s) (h1 : Sa S S' (50 + 2 * i)) (h2 : Sa S S' (51 + 2 * i)) : Ho S' i s := by
  unfold Ho at h ⊢
  rw [h1.1, h2.2.2]
  exact h
theorem CI.kept {S S' : st_S} {σ : sg} (h : CI S σ) (hf : Fm S S') : CI S' σ := by
  obtain ⟨h1, h2, h3, h4, h5⟩ := h
  refine ⟨⟨h1.1, h1.2.kept (hf _ (by decide)) (hf _ (by decide))⟩, h2.kept (fun q _ h => hf q (by omega)), ?_, ?_, ?_⟩
  · have f0 := hf 0 (by decide)
    split
    · rename_i e
      rw [e] at h3
      rw [f0.1]
      exact h3
    · rename_i b l e
      rw [e] at h3
      rw [f0.1]
      exact ⟨h3.1, ⟨h3.2.1.1, h3.2.1.2.kept (hf _ (by decide)) (hf _ (by decide))⟩, h3.2.2.kept (fun q _ h => hf q (by omega))⟩
  · unfold To
    rw [(hf 41 (by decide)).1, (hf 42 (by decide)).2.1]
    exact h4
  · intro i hi
    exact (h5 i hi).kept (hf _ (by omega)) (hf _ (by omega))
/-- numbers: nI of small ones -/
theorem vi {n N : Nat} (h : n < N) (hN : N < 2 ^ 31) : vp_in (nI n) N := vp_in_nI h hN
theorem cl {n : Nat} (h : n < 2 ^ 31) : (nI n).toNatClampNeg = n := nI_clamp h
def grun (γ : Nat → gt) : Nat → Nat → Nat
  | 0, s => s
  | n + 1, s => gact (γ n) (grun γ n s)
theorem grun_lt {w : Nat} {γ : Nat → gt} (hw : w ≤ 6) : ∀ {n : Nat}, (∀ g, g < n → gok w (γ g)) → ∀ {s : Nat}, s < 64 → grun γ n s < 64
  | 0, _, s, hs => hs
  | n + 1, hg, s, hs => gact_lt (hg n (by omega)) hw (grun_lt hw (fun g h => hg g (by omega)) hs)
