/-! rings: numbers -/
theorem itr_mul {f : Nat → Nat} {L s : Nat} (h : itr f L s = s) : ∀ (q : Nat), itr f (L * q) s = s
  | 0 => rfl
  | q + 1 => by rw [Nat.mul_succ, itr_add, itr_mul h q, h]
theorem itr_mod {f : Nat → Nat} {L s : Nat} (h : itr f L s = s) (j : Nat) : itr f j s = itr f (j % L) s := by
  have := itr_add f (L * (j / L)) s (j % L)
  rw [itr_mul h, Nat.div_add_mod] at this
  exact this
theorem itr_comm (f : Nat → Nat) (a b s : Nat) : itr f a (itr f b s) = itr f b (itr f a s) := by
  rw [← itr_add, ← itr_add, Nat.add_comm]
theorem rl_orb {B : bd} (ok : Bok B) {s t j : Nat} (hs : s < 2 ^ bW B) (e : itr (rn B) j s = t) : rl B t = rl B s := by
  have ht : t < 2 ^ bW B := by rw [← e]; exact itr_lt (rn_inj ok).1 hs j
  have h1 : itr (rn B) (rl B s) t = t := by rw [← e, itr_comm, rl_it ok hs]
  have h2 : itr (rn B) (rl B t) s = s := by
    have := rl_it ok ht
    rw [← e, itr_comm] at this
    rw [e] at this
    exact itr_inj (rn_inj ok) j _ _ (itr_lt (rn_inj ok).1 hs _) hs (by rw [this, e])
  have a1 : ¬ rl B s < rl B t := fun q => rl_min rl_pos q h1
  have a2 : ¬ rl B t < rl B s := fun q => rl_min rl_pos q h2
  omega
def lst (B : bd) (s : Nat) : Bool := decide (∀ j, j < rl B s → 0 < j → s < itr (rn B) j s)
theorem lst_t {B : bd} {s : Nat} : lst B s = true ↔ ∀ j, j < rl B s → 0 < j → s < itr (rn B) j s := by simp [lst]
def sn (B : bd) (n t : Nat) : Prop := ∃ u, u < n ∧ ∃ j, itr (rn B) j u = t
theorem itr_dif {B : bd} (ok : Bok B) {s i j : Nat} (hs : s < 2 ^ bW B) (hij : i < j) (hj : j < rl B s) : itr (rn B) i s ≠ itr (rn B) j s := by
  intro e
  rw [show j = (j - i) + i by omega, itr_add] at e
  have := itr_inj (rn_inj ok) i _ _ hs (itr_lt (rn_inj ok).1 hs _) e
  exact rl_min (j := j - i) (by omega) (by omega) this.symm
theorem sn_back {B : bd} (ok : Bok B) {n s k : Nat} (hs : s < 2 ^ bW B) (hk : k ≤ rl B s) (h : sn B n (itr (rn B) k s)) : sn B n s := by
  obtain ⟨u, hu, j, e⟩ := h
  refine ⟨u, hu, j + (rl B s - k), ?_⟩
  rw [itr_add, e, ← itr_add, show k + (rl B s - k) = rl B s by omega, rl_it ok hs]
theorem sn_lst {B : bd} (ok : Bok B) {s : Nat} (hs : s < 2 ^ bW B) : sn B s s ↔ ¬ lst B s = true := by
  constructor
  · intro h hl
    obtain ⟨u, hu, j, e⟩ := h
    have hu' : u < 2 ^ bW B := by omega
    have hL := rl_orb ok hu' e
    have hp := rl_pos (B := B) (s := u)
    have hm := Nat.mod_lt j hp
    rw [itr_mod (rl_it ok hu')] at e
    have e2 : itr (rn B) (rl B u - j % rl B u) s = u := by
      rw [← e, ← itr_add, show j % rl B u + (rl B u - j % rl B u) = rl B u by omega, rl_it ok hu']
    by_cases h0 : j % rl B u = 0
    · rw [h0] at e
      have : u = s := e
      omega
    · have := lst_t.mp hl (rl B u - j % rl B u) (by omega) (by omega)
      omega
  · intro h
    have : ∃ j, j < rl B s ∧ 0 < j ∧ ¬ s < itr (rn B) j s := by
      apply Classical.byContradiction
      intro q
      apply h
      rw [lst_t]
      intro j h1 h2
      apply Classical.byContradiction
      intro h3
      exact q ⟨j, h1, h2, h3⟩
    obtain ⟨j, h1, h2, h3⟩ := this
    have h4 := rl_min h2 h1
    refine ⟨itr (rn B) j s, by omega, rl B s - j, ?_⟩
    rw [← itr_add, show j + (rl B s - j) = rl B s by omega, rl_it ok hs]
theorem sn_succ {B : bd} (ok : Bok B) {s t : Nat} (hs : s < 2 ^ bW B) : sn B (s + 1) t ↔ (sn B s t ∨ ∃ j, j < rl B s ∧ itr (rn B) j s = t) := by
  constructor
  · rintro ⟨u, hu, j, e⟩
    by_cases hus : u = s
    · subst hus
      exact Or.inr ⟨j % rl B u, Nat.mod_lt j rl_pos, by rw [← itr_mod (rl_it ok hs), e]⟩
    · exact Or.inl ⟨u, by omega, j, e⟩
  · rintro (⟨u, hu, j, e⟩ | ⟨j, _, e⟩)
    · exact ⟨u, by omega, j, e⟩
    · exact ⟨s, by omega, j, e⟩
theorem sn_skip {B : bd} (ok : Bok B) {s : Nat} (hs : s < 2 ^ bW B) (h : ¬ lst B s = true) (t : Nat) : sn B (s + 1) t ↔ sn B s t := by
  rw [sn_succ ok hs]
  constructor
  · rintro (h1 | ⟨j, _, e⟩)
    · exact h1
    · obtain ⟨u, hu, i, e2⟩ := (sn_lst ok hs).mpr h
      exact ⟨u, hu, i + j, by rw [itr_add, e2, e]⟩
  · exact Or.inl
/-- the longest, how many stand still, the least common multiple, among the first n -/
def lgs (B : bd) : Nat → Nat
  | 0 => 0
  | n + 1 => if rl B n ≤ lgs B n then lgs B n else rl B n
def stl (B : bd) : Nat → Nat
  | 0 => 0
  | n + 1 => stl B n + (if rn B n = n then 1 else 0)
def alr (B : bd) : Nat → Nat
  | 0 => 1
  | n + 1 => alr B n / Nat.gcd (alr B n) (rl B n) * rl B n
theorem rl_1 {B : bd} {s : Nat} (ok : Bok B) (hs : s < 2 ^ bW B) : rl B s = 1 ↔ rn B s = s := by
  constructor
  · intro h
    have := rl_it ok hs
    rw [h] at this
    exact this
  · intro h
    have h1 : ¬ 1 < rl B s := fun q => rl_min (j := 1) (by omega) q h
    have := rl_pos (B := B) (s := s)
    omega
theorem lst_1 {B : bd} {s : Nat} (h : rl B s = 1) : lst B s = true := by
  rw [lst_t]
  intro j h1 h2
  omega
theorem lgs_le {B : bd} : ∀ {n u : Nat}, u < n → rl B u ≤ lgs B n
  | n + 1, u, h => by
    show rl B u ≤ if rl B n ≤ lgs B n then lgs B n else rl B n
    by_cases hu : u = n
    · subst hu
      split <;> omega
    · have := lgs_le (B := B) (n := n) (u := u) (by omega)
      split <;> omega
theorem lgs_64 {B : bd} (ok : Bok B) : ∀ {n : Nat}, n ≤ 2 ^ bW B → lgs B n ≤ 64
  | 0, _ => Nat.zero_le _
  | n + 1, h => by
    show (if rl B n ≤ lgs B n then lgs B n else rl B n) ≤ 64
    have := lgs_64 ok (n := n) (by omega)
    have := rl_le ok (show n < 2 ^ bW B by omega)
    split <;> omega
theorem stl_le {B : bd} : ∀ (n : Nat), stl B n ≤ n
  | 0 => Nat.le_refl 0
  | n + 1 => by
    have := stl_le (B := B) n
    show stl B n + _ ≤ n + 1
    split <;> omega
theorem alr_pos {B : bd} : ∀ (n : Nat), 0 < alr B n
  | 0 => by show 0 < 1; decide
  | n + 1 => by
    have h := alr_pos (B := B) n
    have hr := rl_pos (B := B) (s := n)
    show 0 < alr B n / Nat.gcd (alr B n) (rl B n) * rl B n
    have g0 : 0 < Nat.gcd (alr B n) (rl B n) := Nat.gcd_pos_of_pos_left _ h
    exact Nat.mul_pos (Nat.div_pos (Nat.gcd_le_left _ h) g0) hr
theorem alr_dvd {B : bd} : ∀ {n u : Nat}, u < n → rl B u ∣ alr B n
  | n + 1, u, h => by
    show rl B u ∣ alr B n / Nat.gcd (alr B n) (rl B n) * rl B n
    by_cases hu : u = n
    · subst hu
      exact Nat.dvd_mul_left _ _
    · have h1 := alr_dvd (B := B) (n := n) (u := u) (by omega)
      refine Nat.dvd_trans h1 ?_
      obtain ⟨q, hq⟩ := Nat.gcd_dvd_right (alr B n) (rl B n)
      refine ⟨q, ?_⟩
      have h2 := Nat.div_mul_cancel (Nat.gcd_dvd_left (alr B n) (rl B n))
      calc alr B n / Nat.gcd (alr B n) (rl B n) * rl B n = alr B n / Nat.gcd (alr B n) (rl B n) * (Nat.gcd (alr B n) (rl B n) * q) := by rw [← hq]
        _ = alr B n * q := by rw [← Nat.mul_assoc, h2]
theorem alr_same {B : bd} {n : Nat} (h : rl B n ∣ alr B n) : alr B (n + 1) = alr B n := by
  show alr B n / Nat.gcd (alr B n) (rl B n) * rl B n = alr B n
  rw [Nat.gcd_eq_right h]
  exact Nat.div_mul_cancel h
theorem alr_le {B : bd} (n : Nat) : alr B (n + 1) ≤ alr B n * rl B n := Nat.mul_le_mul_right _ (Nat.div_le_self _ _)
/-- a ring that is not begun at its least state adds nothing -/
theorem skip_lgs {B : bd} (ok : Bok B) {s : Nat} (hs : s < 2 ^ bW B) (h : ¬ lst B s = true) : lgs B (s + 1) = lgs B s ∧ stl B (s + 1) = stl B s ∧ alr B (s + 1) = alr B s := by
  obtain ⟨u, hu, j, e⟩ := (sn_lst ok hs).mpr h
  have hL := rl_orb ok (by omega) e
  refine ⟨?_, ?_, ?_⟩
  · show (if rl B s ≤ lgs B s then lgs B s else rl B s) = _
    rw [if_pos (by rw [hL]; exact lgs_le hu)]
  · show stl B s + (if rn B s = s then 1 else 0) = _
    rw [if_neg (fun q => h (lst_1 ((rl_1 ok hs).mpr q)))]
    rfl
  · exact alr_same (by rw [hL]; exact alr_dvd hu)
/-! the least common multiple is small -/
def gex (k : Nat) : Nat := [0, 0, 6, 11, 12, 12, 10, 8, 4, 1].getD k 0
theorem gex_p : ∀ k, k < 65 → k ^ 20 ≤ 2 ^ (7 * k + gex k) := by decide +kernel
theorem gex_s : fb_sm gex 65 = 64 := by decide +kernel
def nwl (B : bd) (s : Nat) : Bool := decide (∀ j, j < s → rl B j ≠ rl B s)
theorem nwl_t {B : bd} {s : Nat} : nwl B s = true ↔ ∀ j, j < s → rl B j ≠ rl B s := by simp [nwl]
def lnD (B : bd) : Nat → Nat := fb_sm (fun s => if nwl B s then rl B s else 0)
def lnH (B : bd) (n : Nat) : Nat := fb_sm (fun k => if (decide (∃ j, j < n ∧ rl B j = k)) then gex k else 0) 65
theorem lnH_le (B : bd) (n : Nat) : lnH B n ≤ 64 := by
  have := fb_sm_le (f := fun k => if (decide (∃ j, j < n ∧ rl B j = k)) then gex k else 0) (g := gex) (n := 65) (fun k _ => by
    show (if _ then gex k else 0) ≤ gex k
    split <;> omega)
  rw [gex_s] at this
  exact this
theorem lnH_s {B : bd} (ok : Bok B) {n : Nat} (hn : n < 2 ^ bW B) (h : nwl B n = true) : lnH B (n + 1) = lnH B n + gex (rl B n) := by
  have hl := rl_le ok hn
  have u := fb_sm_upd (fun k => if (decide (∃ j, j < n ∧ rl B j = k)) then gex k else 0) (gex (rl B n)) (i := rl B n) (n := 65) (by omega)
  have e1 : (if (decide (∃ j, j < n ∧ rl B j = rl B n)) then gex (rl B n) else 0) = 0 := by
    have : ¬ ∃ j, j < n ∧ rl B j = rl B n := fun ⟨j, h1, h2⟩ => nwl_t.mp h j h1 h2
    simp [this]
  have e2 : fb_sm (fun k => if k = rl B n then gex (rl B n) else if (decide (∃ j, j < n ∧ rl B j = k)) then gex k else 0) 65 = lnH B (n + 1) := by
    apply fb_sm_cong
    intro k _
    show (if k = rl B n then gex (rl B n) else if (decide (∃ j, j < n ∧ rl B j = k)) then gex k else 0) = if (decide (∃ j, j < n + 1 ∧ rl B j = k)) then gex k else 0
    by_cases hk : k = rl B n
    · have : ∃ j, j < n + 1 ∧ rl B j = k := ⟨n, by omega, hk.symm⟩
      rw [if_pos hk, if_pos (by simpa using this), hk]
    · rw [if_neg hk]
      have : (∃ j, j < n + 1 ∧ rl B j = k) ↔ ∃ j, j < n ∧ rl B j = k := by
        constructor
        · rintro ⟨j, h1, h2⟩
          exact ⟨j, by
            by_cases hjn : j = n
            · subst hjn; exact absurd h2.symm hk
            · omega, h2⟩
        · rintro ⟨j, h1, h2⟩
          exact ⟨j, by omega, h2⟩
      simp only [this]
  rw [e2] at u
  have u' : lnH B (n + 1) + (if (decide (∃ j, j < n ∧ rl B j = rl B n)) then gex (rl B n) else 0) = lnH B n + gex (rl B n) := u
  rw [e1] at u'
  exact u'
theorem lnH_0 {B : bd} {n : Nat} (h : ¬ nwl B n = true) : lnH B (n + 1) = lnH B n := by
  apply fb_sm_cong
  intro k _
  show (if (decide (∃ j, j < n + 1 ∧ rl B j = k)) then gex k else 0) = if (decide (∃ j, j < n ∧ rl B j = k)) then gex k else 0
  have hx : ∃ j, j < n ∧ rl B j = rl B n := by
    apply Classical.byContradiction
    intro q
    exact h (nwl_t.mpr (fun j h1 h2 => q ⟨j, h1, h2⟩))
  have : (∃ j, j < n + 1 ∧ rl B j = k) ↔ ∃ j, j < n ∧ rl B j = k := by
    constructor
    · rintro ⟨j, h1, h2⟩
      by_cases hjn : j = n
      · subst hjn
        obtain ⟨i, h3, h4⟩ := hx
        exact ⟨i, h3, h4.trans h2⟩
      · exact ⟨j, by omega, h2⟩
    · rintro ⟨j, h1, h2⟩
      exact ⟨j, by omega, h2⟩
  simp only [this]
theorem alr_pow {B : bd} (ok : Bok B) : ∀ {n : Nat}, n ≤ 2 ^ bW B → (alr B n) ^ 20 ≤ 2 ^ (7 * lnD B n + lnH B n)
  | 0, _ => by
    show 1 ^ 20 ≤ _
    rw [Nat.one_pow]
    exact Nat.two_pow_pos _
  | n + 1, h => by
    have ih := alr_pow ok (n := n) (by omega)
    have hl := rl_le ok (show n < 2 ^ bW B by omega)
    by_cases hn : nwl B n = true
    · have e1 : lnD B (n + 1) = lnD B n + rl B n := by
        show lnD B n + (if nwl B n then rl B n else 0) = _
        rw [if_pos hn]
      rw [e1, lnH_s ok (by omega) hn, show 7 * (lnD B n + rl B n) + (lnH B n + gex (rl B n)) = (7 * lnD B n + lnH B n) + (7 * rl B n + gex (rl B n)) by omega, Nat.pow_add]
      refine Nat.le_trans (Nat.pow_le_pow_left (alr_le n) 20) ?_
      rw [Nat.mul_pow]
      exact Nat.mul_le_mul ih (gex_p _ (by omega))
    · have e1 : lnD B (n + 1) = lnD B n := by
        show lnD B n + (if nwl B n then rl B n else 0) = _
        rw [if_neg hn]
        rfl
      have hx : ∃ j, j < n ∧ rl B j = rl B n := by
        apply Classical.byContradiction
        intro q
        exact hn (nwl_t.mpr (fun j h1 h2 => q ⟨j, h1, h2⟩))
      obtain ⟨j, h1, h2⟩ := hx
      rw [e1, lnH_0 hn, alr_same (by rw [← h2]; exact alr_dvd h1)]
      exact ih
/-- the rings together hold no more states than there are -/
noncomputable def snb (B : bd) (n t : Nat) : Bool := @decide (sn B n t) (Classical.propDecidable _)
theorem snb_t {B : bd} {n t : Nat} : snb B n t = true ↔ sn B n t := by
  unfold snb
  exact @decide_eq_true_iff _ (Classical.propDecidable _)
def lsum (B : bd) : Nat → Nat := fb_sm (fun s => if lst B s then rl B s else 0)
def orb (B : bd) (s n t : Nat) : Bool := decide (∃ j, j < n ∧ itr (rn B) j s = t)
theorem orb_t {B : bd} {s n t : Nat} : orb B s n t = true ↔ ∃ j, j < n ∧ itr (rn B) j s = t := by simp [orb]
theorem orb_ct {B : bd} (ok : Bok B) {s : Nat} (hs : s < 2 ^ bW B) : ∀ {n : Nat}, n ≤ rl B s → fb_ct (orb B s n) (2 ^ bW B) = n
  | 0, _ => by
    rw [fb_ct_zero]
    intro k _
    simp [orb]
  | n + 1, h => by
    have ih := orb_ct ok hs (n := n) (by omega)
    have hi := itr_lt (rn_inj ok).1 hs n
    have u := fb_ct_upd (orb B s n) true hi
    have e1 : orb B s n (itr (rn B) n s) = false := by
      cases e : orb B s n (itr (rn B) n s)
      · rfl
      · obtain ⟨j, h1, h2⟩ := orb_t.mp e
        exact absurd h2 (itr_dif ok hs h1 (by omega))
    have e2 : (fun k => if k = itr (rn B) n s then true else orb B s n k) = orb B s (n + 1) := by
      funext k
      by_cases hk : k = itr (rn B) n s
      · rw [if_pos hk]
        exact (orb_t.mpr ⟨n, by omega, hk.symm⟩).symm
      · rw [if_neg hk]
        rw [Bool.eq_iff_iff, orb_t, orb_t]
        constructor
        · rintro ⟨j, h1, h2⟩
          exact ⟨j, by omega, h2⟩
        · rintro ⟨j, h1, h2⟩
          exact ⟨j, by
            by_cases hjn : j = n
            · subst hjn; exact absurd h2.symm hk
            · omega, h2⟩
    rw [e1, e2, ih] at u
    simpa using u
theorem lsum_ct {B : bd} (ok : Bok B) : ∀ {n : Nat}, n ≤ 2 ^ bW B → fb_ct (snb B n) (2 ^ bW B) = lsum B n
  | 0, _ => by
    show _ = 0
    rw [fb_ct_zero]
    intro k _
    cases e : snb B 0 k
    · rfl
    · obtain ⟨u, hu, _⟩ := snb_t.mp e
      omega
  | n + 1, h => by
    have ih := lsum_ct ok (n := n) (by omega)
    have hn : n < 2 ^ bW B := by omega
    show _ = lsum B n + (if lst B n then rl B n else 0)
    by_cases hl : lst B n = true
    · rw [if_pos hl, ← ih]
      have := orb_ct ok hn (Nat.le_refl (rl B n))
      have o := fb_ct_or (p := snb B n) (q := orb B n (rl B n)) (n := 2 ^ bW B) (fun k hk ⟨h1, h2⟩ => by
        obtain ⟨j, h3, h4⟩ := orb_t.mp h2
        have := snb_t.mp h1
        rw [← h4] at this
        exact (sn_lst ok hn).mp (sn_back ok hn (by omega) this) hl)
      rw [this] at o
      rw [← o]
      apply fb_ct_cong
      intro k _
      rw [Bool.eq_iff_iff, snb_t, sn_succ ok hn, Bool.or_eq_true, snb_t, orb_t]
    · rw [if_neg hl, ← ih]
      apply fb_ct_cong
      intro k _
      rw [Bool.eq_iff_iff, snb_t, snb_t, sn_skip ok hn hl]
theorem nwl_lst {B : bd} (ok : Bok B) {s : Nat} (hs : s < 2 ^ bW B) (h : nwl B s = true) : lst B s = true := by
  apply Classical.byContradiction
  intro q
  obtain ⟨u, hu, j, e⟩ := (sn_lst ok hs).mpr q
  exact nwl_t.mp h u hu (rl_orb ok (by omega) e).symm
theorem lnD_le {B : bd} (ok : Bok B) {n : Nat} (hn : n ≤ 2 ^ bW B) : lnD B n ≤ 64 := by
  have h1 : lnD B n ≤ lsum B n := fb_sm_le (fun k hk => by
    show (if nwl B k then rl B k else 0) ≤ if lst B k then rl B k else 0
    by_cases hw : nwl B k = true
    · rw [if_pos hw, if_pos (nwl_lst ok (by omega) hw)]
      exact Nat.le_refl _
    · rw [if_neg hw]
      exact Nat.zero_le _)
  have h2 := fb_ct_le (snb B n) (2 ^ bW B)
  rw [lsum_ct ok hn] at h2
  have := pw_le ok.1.2
  omega
theorem alr_lt {B : bd} (ok : Bok B) {n : Nat} (hn : n ≤ 2 ^ bW B) : alr B n < 2 ^ 31 := by
  have h1 := alr_pow ok hn
  have h2 := lnD_le ok hn
  have h3 := lnH_le B n
  apply Classical.byContradiction
  intro q
  have h4 : (2 ^ 31) ^ 20 ≤ (alr B n) ^ 20 := Nat.pow_le_pow_left (by omega) 20
  have h5 : 2 ^ (7 * lnD B n + lnH B n) ≤ 2 ^ 512 := Nat.pow_le_pow_right (by omega) (by omega)
  have h6 : (2 ^ 512 : Nat) < (2 ^ 31) ^ 20 := by decide +kernel
  exact absurd (Nat.le_trans h4 (Nat.le_trans h1 h5)) (Nat.not_le.mpr h6)
