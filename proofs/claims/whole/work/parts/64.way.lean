/-! how far a state is -/
abbrev ac (B : bd) (g s : Nat) : Nat := gact (bG B g) s
theorem ac_w {B : bd} (ok : Bok B) {g s : Nat} (hg : g < bN B) (hs : s < 2 ^ bW B) : ac B g s < 2 ^ bW B := gact_w (ok.2.2.2.2.2 g hg) hs
theorem ac_2 {B : bd} (ok : Bok B) {g s : Nat} (hg : g < bN B) (hs : s < 2 ^ bW B) : ac B g (ac B g s) = s := gact_2 (ok.2.2.2.2.2 g hg) ok.1.2 (rn_64 ok hs)
/-- d says how many gates each state is away from e (9999: it can't be come to) -/
def IsD (B : bd) (e : Nat) (d : Nat → Nat) : Prop := (d e = 0) ∧ (∀ s, s < 2 ^ bW B → d s = 0 → s = e) ∧ (∀ s, s < 2 ^ bW B → ∀ k, d s = k + 1 → k + 1 < 9999 → ∃ g, g < bN B ∧ d (ac B g s) = k) ∧ (∀ s, s < 2 ^ bW B → d s < 9999 → ∀ g, g < bN B → d (ac B g s) ≤ d s + 1 ∧ d (ac B g s) < 9999) ∧ (∀ s, s < 2 ^ bW B → d s ≤ 9999)
theorem IsD.z {B : bd} {e : Nat} {d : Nat → Nat} (H : IsD B e d) : d e = 0 := H.1
theorem IsD.o {B : bd} {e : Nat} {d : Nat → Nat} (H : IsD B e d) : ∀ s, s < 2 ^ bW B → d s = 0 → s = e := H.2.1
theorem IsD.p {B : bd} {e : Nat} {d : Nat → Nat} (H : IsD B e d) : ∀ s, s < 2 ^ bW B → ∀ k, d s = k + 1 → k + 1 < 9999 → ∃ g, g < bN B ∧ d (ac B g s) = k := H.2.2.1
theorem IsD.q {B : bd} {e : Nat} {d : Nat → Nat} (H : IsD B e d) : ∀ s, s < 2 ^ bW B → d s < 9999 → ∀ g, g < bN B → d (ac B g s) ≤ d s + 1 ∧ d (ac B g s) < 9999 := H.2.2.2.1
theorem IsD.m {B : bd} {e : Nat} {d : Nat → Nat} (H : IsD B e d) : ∀ s, s < 2 ^ bW B → d s ≤ 9999 := H.2.2.2.2
theorem IsD.mk' {B : bd} {e : Nat} {d : Nat → Nat} (z : d e = 0) (o : ∀ s, s < 2 ^ bW B → d s = 0 → s = e) (p : ∀ s, s < 2 ^ bW B → ∀ k, d s = k + 1 → k + 1 < 9999 → ∃ g, g < bN B ∧ d (ac B g s) = k) (q : ∀ s, s < 2 ^ bW B → d s < 9999 → ∀ g, g < bN B → d (ac B g s) ≤ d s + 1 ∧ d (ac B g s) < 9999) (m : ∀ s, s < 2 ^ bW B → d s ≤ 9999) : IsD B e d := ⟨z, o, p, q, m⟩
theorem IsD.le {B : bd} (ok : Bok B) {e : Nat} {d d' : Nat → Nat} (h : IsD B e d) (h' : IsD B e d') : ∀ (k s : Nat), s < 2 ^ bW B → d s = k → k < 9999 → d' s ≤ k
  | 0, s, hs, e1, _ => by
    rw [h.o s hs e1, h'.z]
    exact Nat.le_refl 0
  | k + 1, s, hs, e1, hk => by
    obtain ⟨g, hg, e2⟩ := h.p s hs k e1 hk
    have hl := ac_w ok hg hs
    have h1 := IsD.le ok h h' k (ac B g s) hl e2 (by omega)
    have h2 := h'.q (ac B g s) hl (by omega) g hg
    rw [ac_2 ok hg hs] at h2
    omega
theorem IsD.eq {B : bd} (ok : Bok B) {e : Nat} {d d' : Nat → Nat} (h : IsD B e d) (h' : IsD B e d') {s : Nat} (hs : s < 2 ^ bW B) : d s = d' s := by
  have m1 := h.m s hs
  have m2 := h'.m s hs
  by_cases h1 : d s < 9999
  · have a1 := IsD.le ok h h' (d s) s hs rfl h1
    have a2 := IsD.le ok h' h (d' s) s hs rfl (by omega)
    omega
  · by_cases h2 : d' s < 9999
    · have a2 := IsD.le ok h' h (d' s) s hs rfl h2
      omega
    · omega
noncomputable def dst (B : bd) (e : Nat) : Nat → Nat := @dite _ (∃ d, IsD B e d) (Classical.propDecidable _) (fun h => Classical.choose h) (fun _ _ => 9999)
theorem dst_is {B : bd} {e : Nat} {d : Nat → Nat} (h : IsD B e d) : IsD B e (dst B e) := by
  have : ∃ d, IsD B e d := ⟨d, h⟩
  unfold dst
  rw [dif_pos this]
  exact Classical.choose_spec this
theorem dst_eq {B : bd} (ok : Bok B) {e : Nat} {d : Nat → Nat} (h : IsD B e d) {s : Nat} (hs : s < 2 ^ bW B) : dst B e s = d s := IsD.eq ok (dst_is h) h hs
/-- finite ones are small -/
theorem IsD.hit {B : bd} (ok : Bok B) {e : Nat} {d : Nat → Nat} (h : IsD B e d) : ∀ (k s : Nat), s < 2 ^ bW B → d s = k → k < 9999 → ∀ j, j ≤ k → ∃ t, t < 2 ^ bW B ∧ d t = j
  | 0, s, hs, e1, _, j, hj => ⟨s, hs, by omega⟩
  | k + 1, s, hs, e1, hk, j, hj => by
    by_cases hjk : j = k + 1
    · exact ⟨s, hs, by omega⟩
    · obtain ⟨g, hg, e2⟩ := h.p s hs k e1 hk
      exact IsD.hit ok h k (ac B g s) (ac_w ok hg hs) e2 (by omega) j (by omega)
theorem IsD.lt {B : bd} (ok : Bok B) {e : Nat} {d : Nat → Nat} (h : IsD B e d) {s : Nat} (hs : s < 2 ^ bW B) (hd : d s < 9999) : d s < 64 := by
  have hh := IsD.hit ok h (d s) s hs rfl hd
  have hw := pw_le ok.1.2
  have hc : ∀ j, ∃ t, j ≤ d s → t < 2 ^ bW B ∧ d t = j := fun j => by
    by_cases hj : j ≤ d s
    · obtain ⟨t, h1, h2⟩ := hh j hj
      exact ⟨t, fun _ => ⟨h1, h2⟩⟩
    · exact ⟨0, fun q => absurd q hj⟩
  have := fb_holes (2 ^ bW B) (d s + 1) (fun j => Classical.choose (hc j)) (fun i hi => (Classical.choose_spec (hc i) (by omega)).1) (fun i j hij hj e => by
    have e : Classical.choose (hc i) = Classical.choose (hc j) := e
    have h1 := (Classical.choose_spec (hc i) (by omega)).2
    have h2 := (Classical.choose_spec (hc j) (by omega)).2
    rw [e, h2] at h1
    omega)
  omega
/-- a row of numbers as the class holds it -/
def wv (x : Nat) : Int32 := if x < 9999 then nI x else -1
theorem i_fill {S : st_S} {x : Int32} {Q : aw_R} (hq : ∀ f, (∀ k, k < 64 → f k = x) → Q none (hp (sF S 47 f))) : tr_J7_fill_53178 [.ref 47, .int x] (hp S) Q := by
  rw [tq_J7_fill_53178]
  intro K5 r5
  unfold sm_J7_fill_53178_0
  rw [ha_N (p := 47) (Or.inl rfl)]
  show K5 47 x 0 (nI 64) (hp S)
  have main : ∀ m k f, k + m = 64 → (∀ j, j < k → f j = x) → K5 47 x (nI k) (nI 64) (hp (sF S 47 f)) := by
    intro m
    induction m with
    | zero =>
      intro k f e hf
      apply r5
      unfold sm_J7_fill_53178_5
      rw [if_pos (nI_le (by omega) (by omega))]
      exact hq f (fun j hj => hf j (by omega))
    | succ m ih =>
      intro k f e hf
      apply r5
      unfold sm_J7_fill_53178_5
      rw [if_neg (nI_ge (by omega) (by omega)), a_s rfl rfl (by omega), sA_F, sF_F, sF_at, nI_1]
      refine ih (k + 1) _ (by omega) (fun j hj => ?_)
      by_cases hjk : j = k
      · rw [hjk, pk_us]
      · rw [pk_un hjk, hf j (by omega)]
  have := main 64 0 (S.2.1 47) (by omega) (fun j hj => absurd hj (Nat.not_lt_zero j))
  rw [sF_self] at this
  exact this
/-- the line of states as it grows: r come to, h of them looked at -/
def Bfs (B : bd) (e : Nat) (d ln : Nat → Nat) (r h : Nat) : Prop := (1 ≤ r) ∧ (∀ i, i < r → ln i < 2 ^ bW B) ∧ (∀ i j, i < j → j < r → ln i ≠ ln j) ∧ (∀ s, s < 2 ^ bW B → (d s < 9999 ↔ ∃ i, i < r ∧ ln i = s)) ∧ (∀ i j, i < j → j < r → d (ln i) ≤ d (ln j)) ∧ (∀ i, i < r → d (ln i) ≤ i) ∧ (d e = 0) ∧ (∀ s, s < 2 ^ bW B → d s = 0 → s = e) ∧ (∀ s, s < 2 ^ bW B → ∀ k, d s = k + 1 → k + 1 < 9999 → ∃ g, g < bN B ∧ d (ac B g s) = k) ∧ (∀ i, i < h → ∀ g, g < bN B → d (ac B g (ln i)) ≤ d (ln i) + 1) ∧ (∀ s, s < 2 ^ bW B → d s ≤ 9999) ∧ (fb_ct (fun s => decide (d s < 9999)) (2 ^ bW B) = r) ∧ (h ≤ r) ∧ (h < r → ∀ j, j < r → d (ln j) ≤ d (ln h) + 1)
theorem Bfs.r1 {B : bd} {e : Nat} {d ln : Nat → Nat} {r h : Nat} (H : Bfs B e d ln r h) : 1 ≤ r := H.1
theorem Bfs.l {B : bd} {e : Nat} {d ln : Nat → Nat} {r h : Nat} (H : Bfs B e d ln r h) : ∀ i, i < r → ln i < 2 ^ bW B := H.2.1
theorem Bfs.u {B : bd} {e : Nat} {d ln : Nat → Nat} {r h : Nat} (H : Bfs B e d ln r h) : ∀ i j, i < j → j < r → ln i ≠ ln j := H.2.2.1
theorem Bfs.f {B : bd} {e : Nat} {d ln : Nat → Nat} {r h : Nat} (H : Bfs B e d ln r h) : ∀ s, s < 2 ^ bW B → (d s < 9999 ↔ ∃ i, i < r ∧ ln i = s) := H.2.2.2.1
theorem Bfs.mo {B : bd} {e : Nat} {d ln : Nat → Nat} {r h : Nat} (H : Bfs B e d ln r h) : ∀ i j, i < j → j < r → d (ln i) ≤ d (ln j) := H.2.2.2.2.1
theorem Bfs.b {B : bd} {e : Nat} {d ln : Nat → Nat} {r h : Nat} (H : Bfs B e d ln r h) : ∀ i, i < r → d (ln i) ≤ i := H.2.2.2.2.2.1
theorem Bfs.z {B : bd} {e : Nat} {d ln : Nat → Nat} {r h : Nat} (H : Bfs B e d ln r h) : d e = 0 := H.2.2.2.2.2.2.1
theorem Bfs.o {B : bd} {e : Nat} {d ln : Nat → Nat} {r h : Nat} (H : Bfs B e d ln r h) : ∀ s, s < 2 ^ bW B → d s = 0 → s = e := H.2.2.2.2.2.2.2.1
theorem Bfs.p {B : bd} {e : Nat} {d ln : Nat → Nat} {r h : Nat} (H : Bfs B e d ln r h) : ∀ s, s < 2 ^ bW B → ∀ k, d s = k + 1 → k + 1 < 9999 → ∃ g, g < bN B ∧ d (ac B g s) = k := H.2.2.2.2.2.2.2.2.1
theorem Bfs.q {B : bd} {e : Nat} {d ln : Nat → Nat} {r h : Nat} (H : Bfs B e d ln r h) : ∀ i, i < h → ∀ g, g < bN B → d (ac B g (ln i)) ≤ d (ln i) + 1 := H.2.2.2.2.2.2.2.2.2.1
theorem Bfs.mx {B : bd} {e : Nat} {d ln : Nat → Nat} {r h : Nat} (H : Bfs B e d ln r h) : ∀ s, s < 2 ^ bW B → d s ≤ 9999 := H.2.2.2.2.2.2.2.2.2.2.1
theorem Bfs.c {B : bd} {e : Nat} {d ln : Nat → Nat} {r h : Nat} (H : Bfs B e d ln r h) : fb_ct (fun s => decide (d s < 9999)) (2 ^ bW B) = r := H.2.2.2.2.2.2.2.2.2.2.2.1
theorem Bfs.hr {B : bd} {e : Nat} {d ln : Nat → Nat} {r h : Nat} (H : Bfs B e d ln r h) : h ≤ r := H.2.2.2.2.2.2.2.2.2.2.2.2.1
theorem Bfs.t {B : bd} {e : Nat} {d ln : Nat → Nat} {r h : Nat} (H : Bfs B e d ln r h) : h < r → ∀ j, j < r → d (ln j) ≤ d (ln h) + 1 := H.2.2.2.2.2.2.2.2.2.2.2.2.2
theorem Bfs.mk' {B : bd} {e : Nat} {d ln : Nat → Nat} {r h : Nat} (r1 : 1 ≤ r) (l : ∀ i, i < r → ln i < 2 ^ bW B) (u : ∀ i j, i < j → j < r → ln i ≠ ln j) (f : ∀ s, s < 2 ^ bW B → (d s < 9999 ↔ ∃ i, i < r ∧ ln i = s)) (mo : ∀ i j, i < j → j < r → d (ln i) ≤ d (ln j)) (b : ∀ i, i < r → d (ln i) ≤ i) (z : d e = 0) (o : ∀ s, s < 2 ^ bW B → d s = 0 → s = e) (p : ∀ s, s < 2 ^ bW B → ∀ k, d s = k + 1 → k + 1 < 9999 → ∃ g, g < bN B ∧ d (ac B g s) = k) (q : ∀ i, i < h → ∀ g, g < bN B → d (ac B g (ln i)) ≤ d (ln i) + 1) (mx : ∀ s, s < 2 ^ bW B → d s ≤ 9999) (c : fb_ct (fun s => decide (d s < 9999)) (2 ^ bW B) = r) (hr : h ≤ r) (t : h < r → ∀ j, j < r → d (ln j) ≤ d (ln h) + 1) : Bfs B e d ln r h := ⟨r1, l, u, f, mo, b, z, o, p, q, mx, c, hr, t⟩
theorem Bfs.rn {B : bd} {e r h : Nat} {d ln : Nat → Nat} (H : Bfs B e d ln r h) : r ≤ 2 ^ bW B := fb_holes _ _ ln H.l H.u
theorem Bfs.add {B : bd} (ok : Bok B) {e r h g : Nat} {d ln : Nat → Nat} (H : Bfs B e d ln r h) (hh : h < r) (hg : g < bN B) (hd : ¬ d (ac B g (ln h)) < 9999) : Bfs B e (fun s => if s = ac B g (ln h) then d (ln h) + 1 else d s) (fun i => if i = r then ac B g (ln h) else ln i) (r + 1) h ∧ r < 2 ^ bW B := by
  have hw := pw_le ok.1.2
  have hln := H.l h hh
  have ht := ac_w ok hg hln
  have hrn := H.rn
  have bh := H.b h hh
  have hne : ∀ i, i < r → ln i ≠ ac B g (ln h) := fun i hi q => hd ((H.f _ ht).mpr ⟨i, hi, q⟩)
  have L : ∀ i, i < r → (if i = r then ac B g (ln h) else ln i) = ln i := fun i hi => if_neg (by omega)
  have Lr : (if r = r then ac B g (ln h) else ln r) = ac B g (ln h) := if_pos rfl
  have D : ∀ s, s ≠ ac B g (ln h) → (if s = ac B g (ln h) then d (ln h) + 1 else d s) = d s := fun s hs => if_neg hs
  have Dt : (if ac B g (ln h) = ac B g (ln h) then d (ln h) + 1 else d (ac B g (ln h))) = d (ln h) + 1 := if_pos rfl
  have Ll : ∀ i, i < r + 1 → (if i = r then ac B g (ln h) else ln i) < 2 ^ bW B := fun i hi => by
    by_cases hir : i = r
    · rw [if_pos hir]; exact ht
    · rw [if_neg hir]; exact H.l i (by omega)
  have Lu : ∀ i j, i < j → j < r + 1 → (if i = r then ac B g (ln h) else ln i) ≠ (if j = r then ac B g (ln h) else ln j) := fun i j hij hj => by
    rw [L i (by omega)]
    by_cases hjr : j = r
    · rw [if_pos hjr]; exact hne i (by omega)
    · rw [if_neg hjr]; exact H.u i j hij (by omega)
  have hr1 := fb_holes _ _ _ Ll Lu
  refine ⟨Bfs.mk' (r1 := by omega) (l := Ll) (u := Lu) (f := ?_) (mo := ?_) (b := ?_) (z := ?_) (o := ?_) (p := ?_) (q := ?_) (mx := ?_) (c := ?_) (hr := by have := H.hr; omega) (t := ?_), by omega⟩
  · intro s hs
    show (if s = ac B g (ln h) then d (ln h) + 1 else d s) < 9999 ↔ _
    by_cases hst : s = ac B g (ln h)
    · rw [if_pos hst]
      exact ⟨fun _ => ⟨r, by omega, by rw [Lr, hst]⟩, fun _ => by omega⟩
    · rw [if_neg hst, H.f s hs]
      constructor
      · rintro ⟨i, hi, q⟩
        exact ⟨i, by omega, by rw [L i hi]; exact q⟩
      · rintro ⟨i, hi, q⟩
        by_cases hir : i = r
        · rw [if_pos hir] at q
          exact absurd q.symm hst
        · rw [if_neg hir] at q
          exact ⟨i, by omega, q⟩
  · intro i j hij hj
    show (if (if i = r then ac B g (ln h) else ln i) = ac B g (ln h) then d (ln h) + 1 else d (if i = r then ac B g (ln h) else ln i)) ≤ (if (if j = r then ac B g (ln h) else ln j) = ac B g (ln h) then d (ln h) + 1 else d (if j = r then ac B g (ln h) else ln j))
    rw [L i (by omega), D _ (hne i (by omega))]
    by_cases hjr : j = r
    · rw [hjr, Lr, Dt]
      exact H.t hh i (by omega)
    · rw [L j (by omega), D _ (hne j (by omega))]
      exact H.mo i j hij (by omega)
  · intro i hi
    show (if (if i = r then ac B g (ln h) else ln i) = ac B g (ln h) then d (ln h) + 1 else d (if i = r then ac B g (ln h) else ln i)) ≤ i
    by_cases hir : i = r
    · rw [hir, Lr, Dt]
      omega
    · rw [L i (by omega), D _ (hne i (by omega))]
      exact H.b i (by omega)
  · show (if e = ac B g (ln h) then d (ln h) + 1 else d e) = 0
    rw [D e (fun q => hd (by rw [← q, H.z]; omega))]
    exact H.z
  · intro s hs
    show (if s = ac B g (ln h) then d (ln h) + 1 else d s) = 0 → _
    by_cases hst : s = ac B g (ln h)
    · rw [if_pos hst]; omega
    · rw [if_neg hst]; exact H.o s hs
  · intro s hs k
    show (if s = ac B g (ln h) then d (ln h) + 1 else d s) = k + 1 → _ → ∃ g', g' < bN B ∧ (if ac B g' s = ac B g (ln h) then d (ln h) + 1 else d (ac B g' s)) = k
    by_cases hst : s = ac B g (ln h)
    · rw [if_pos hst]
      intro e1 _
      refine ⟨g, hg, ?_⟩
      rw [hst, ac_2 ok hg hln, D _ (hne h hh)]
      omega
    · rw [if_neg hst]
      intro e1 hk
      obtain ⟨g', hg', e2⟩ := H.p s hs k e1 hk
      refine ⟨g', hg', ?_⟩
      rw [D _ (fun q => hd (by rw [← q, e2]; omega))]
      exact e2
  · intro i hi g' hg'
    have hir : i < r := by omega
    show (if ac B g' (if i = r then ac B g (ln h) else ln i) = ac B g (ln h) then d (ln h) + 1 else d (ac B g' (if i = r then ac B g (ln h) else ln i))) ≤ (if (if i = r then ac B g (ln h) else ln i) = ac B g (ln h) then d (ln h) + 1 else d (if i = r then ac B g (ln h) else ln i)) + 1
    have h1 := H.q i hi g' hg'
    have h2 := H.b i hir
    rw [L i hir, D _ (hne i hir), D _ (fun q => hd (by rw [← q]; omega))]
    exact h1
  · intro s hs
    show (if s = ac B g (ln h) then d (ln h) + 1 else d s) ≤ 9999
    split
    · omega
    · exact H.mx s hs
  · have u := fb_ct_upd (fun s => decide (d s < 9999)) true ht
    have e1 : (fun s => decide ((if s = ac B g (ln h) then d (ln h) + 1 else d s) < 9999)) = fun k => if k = ac B g (ln h) then true else (fun s => decide (d s < 9999)) k := by
      funext k
      by_cases hk : k = ac B g (ln h)
      · rw [if_pos hk, if_pos hk]
        simp
        omega
      · rw [if_neg hk, if_neg hk]
    rw [e1]
    rw [H.c] at u
    have e2 : (if (fun s => decide (d s < 9999)) (ac B g (ln h)) then 1 else 0) = 0 := by simp [hd]
    rw [e2] at u
    simpa using u
  · intro _ j hj
    show (if (if j = r then ac B g (ln h) else ln j) = ac B g (ln h) then d (ln h) + 1 else d (if j = r then ac B g (ln h) else ln j)) ≤ (if (if h = r then ac B g (ln h) else ln h) = ac B g (ln h) then d (ln h) + 1 else d (if h = r then ac B g (ln h) else ln h)) + 1
    rw [L h hh, D _ (hne h hh)]
    by_cases hjr : j = r
    · rw [hjr, Lr, Dt]
      omega
    · rw [L j (by omega), D _ (hne j (by omega))]
      exact H.t hh j (by omega)
theorem Bfs.next {B : bd} {e r h : Nat} {d ln : Nat → Nat} (H : Bfs B e d ln r h) (hh : h < r) (hq : ∀ g, g < bN B → d (ac B g (ln h)) ≤ d (ln h) + 1) : Bfs B e d ln r (h + 1) := by
  refine Bfs.mk' H.r1 H.l H.u H.f H.mo H.b H.z H.o H.p ?_ H.mx H.c (by omega) ?_
  · intro i hi g hg
    by_cases hih : i = h
    · subst hih; exact hq g hg
    · exact H.q i (by omega) g hg
  · intro h1 j hj
    have := H.t hh j hj
    have := H.mo h (h + 1) (by omega) h1
    omega
theorem Bfs.isd {B : bd} (ok : Bok B) {e r : Nat} {d ln : Nat → Nat} (H : Bfs B e d ln r r) : IsD B e d := by
  have hrn := H.rn
  have hw := pw_le ok.1.2
  refine ⟨H.z, H.o, H.p, fun s hs hd g hg => ?_, H.mx⟩
  obtain ⟨i, hi, rfl⟩ := (H.f s hs).mp hd
  have := H.q i hi g hg
  have := H.b i hi
  exact ⟨by omega, by omega⟩
theorem Bfs.begin {B : bd} {e : Nat} (he : e < 2 ^ bW B) : Bfs B e (fun s => if s = e then 0 else 9999) (fun _ => e) 1 0 := by
  refine Bfs.mk' (r1 := by omega) (l := fun _ _ => he) (u := fun i j h1 h2 => by omega) (f := ?_) (mo := fun i j h1 h2 => by omega) (b := fun i _ => by simp) (z := if_pos rfl) (o := ?_) (p := ?_) (q := fun i hi => absurd hi (Nat.not_lt_zero i)) (mx := ?_) (c := ?_) (hr := by omega) (t := fun _ j _ => by simp)
  · intro s hs
    by_cases h : s = e
    · simp [h]
    · simp [h]
      intro q
      exact h q.symm
  · intro s hs
    by_cases h : s = e
    · simp [h]
    · simp [h]
  · intro s hs k
    by_cases h : s = e
    · simp [h]
    · simp [h]
      omega
  · intro s hs
    show (if s = e then 0 else 9999) ≤ 9999
    split <;> omega
  · have u := fb_ct_upd (fun _ => false) true he
    have e1 : (fun s => decide ((if s = e then 0 else 9999) < 9999)) = fun k => if k = e then true else (fun _ => false) k := by
      funext k
      by_cases hk : k = e
      · simp [hk]
      · simp [hk]
    rw [e1]
    have e2 : fb_ct (fun _ => false) (2 ^ bW B) = 0 := fb_ct_zero.mpr (fun _ _ => rfl)
    rw [e2] at u
    simpa using u
