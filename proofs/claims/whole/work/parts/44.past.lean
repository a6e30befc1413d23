/-! THE CLASS'S PAST -/
def Sr (lo hi : Nat) (S S' : st_S) : Prop := ∀ q, ¬ (lo ≤ q ∧ q < hi) → Sa S S' q
theorem Sr.rf (lo hi : Nat) (S : st_S) : Sr lo hi S S := fun q _ => Sa.rf S q
theorem Sr.tr {lo hi : Nat} {S S' S'' : st_S} (h : Sr lo hi S S') (h' : Sr lo hi S' S'') : Sr lo hi S S'' := fun q hq => (h q hq).tr (h' q hq)
theorem Sx.R {ps : List Nat} {lo hi : Nat} {S S' : st_S} (h : Sx ps S S') (hs : ∀ q ∈ ps, lo ≤ q ∧ q < hi) : Sr lo hi S S' := fun q hq => h q (fun z => hq (hs q z))
theorem Sr.I {lo hi : Nat} {S : st_S} {p k : Nat} {v : Int32} (h : lo ≤ p ∧ p < hi) : Sr lo hi S (sI S p k v) := (Sx.I (ps := [p]) (by simp)).R (fun q hq => by simp at hq; subst hq; exact h)
theorem Sa.I {S : st_S} {p q k : Nat} {v : Int32} (h : q ≠ p) : Sa S (sI S p k v) q := Sx.I (ps := [p]) (by simp) q (by simp [h])
theorem px_all : ∀ p, p < 68 → kd p = 2 → kd (p + 1) = 13 ∧ ∀ i, i < 8 → kd (p + 2 + 2 * i) = 0 := by decide +kernel
theorem px {p : Nat} (hk : kd p = 2) : kd (p + 1) = 13 ∧ ∀ i, i < 8 → kd (p + 2 + 2 * i) = 0 := px_all p (kd_lt hk (by decide)) hk
theorem e_forget {S : st_S} {p : Nat} (hk : kd p = 2) {Q : aw_R} : tr_X3_forget [.ref p] (hp S) Q = Q none (hp (sI S p 2 0)) := by
  rw [propext tq_X3_forget]
  unfold sm_X3_forget_0
  rw [hq_P (k := 2) hk rfl]
theorem Po.forget {S : st_S} {p : Nat} {l : List bd} (h : Po S p l) : Po (sI S p 2 0) p [] := by
  obtain ⟨a, nx, b, c, d, e⟩ := h
  exact ⟨by simp, nx, b, by simp [sI, c], by simp [sI]; rfl, fun j B hj => by simp at hj⟩
theorem i_keep {S : st_S} {p pb : Nat} {l : List bd} {B : bd} (hk : kd p = 2) (hb : kd pb = 0) (hne : ∀ i, i < 8 → p + 2 + 2 * i ≠ pb) (hP : Po S p l) (hB : Bo S pb B) (ok : Bok B) {Q : aw_R} (hq : ∀ S', Sr p (p + 18) S S' → Po S' p ((B :: l).take 8) → Q none (hp S')) : tr_X3_keep [.ref p, .ref pb] (hp S) Q := by
  rw [tq_X3_keep]
  unfold sm_X3_keep_0
  obtain ⟨k1, kb⟩ := px hk
  obtain ⟨hl, nx, hnx, a1, a2, ag⟩ := hP
  rw [hq_R (k := 0) hk rfl, hq_I (k := 1) hk rfl, a1]
  show sa_R (hp S) 3 (p + 1) (nI nx) _
  rw [ha_R3 k1]
  refine ⟨vi hnx (by omega), ?_⟩
  rw [cl (by omega), show p + 1 + 1 + 2 * nx = p + 2 + 2 * nx by omega, hv_O (kb nx hnx) (by decide)]
  refine i_becomes (kb nx hnx) hb (hne nx hnx) hB ok (fun S' hs hB' => ?_)
  simp only [sr_V]
  have np : Sa S S' p := hs p (by simp; omega)
  rw [hq_I (k := 1) hk rfl, np.1, a1, nI_1]
  have hr : Sr p (p + 18) S S' := hs.R (fun q hq => by simp at hq; omega)
  have fin : ∀ nx', nx' = (nx + 1) % 8 → Po (sI (sI S' p 1 (nI nx')) p 2 (if 8 < (nI l.length + 1) then 8 else (nI l.length + 1))) p ((B :: l).take 8) := by
    intro nx' hnx'
    have hln : (if 8 < (nI l.length + 1) then (8 : Int32) else (nI l.length + 1)) = nI ((B :: l).take 8).length := by
      rw [nI_1, List.length_take, List.length_cons]
      by_cases h8 : l.length + 1 ≤ 8
      · rw [if_neg (show ¬ (8 : Int32) < nI (l.length + 1) from nI_nlt (b := 8) (a := l.length + 1) |> fun _ => fun q => by have := (nI_ltI (a := 8) (b := l.length + 1) (by omega) (by omega)).mp q; omega), Nat.min_eq_right h8]
      · rw [if_pos (show (8 : Int32) < nI (l.length + 1) from (nI_ltI (a := 8) (b := l.length + 1) (by omega) (by omega)).mpr (by omega)), Nat.min_eq_left (by omega)]
        rfl
    refine ⟨by rw [List.length_take]; omega, nx', by omega, by simp [sI], by simp only [sI, and_self, if_true]; exact hln, fun j C hj => ?_⟩
    rw [List.getElem?_take] at hj
    by_cases hj8 : j < 8
    · rw [if_pos hj8] at hj
      cases j with
      | zero =>
        simp at hj
        subst hj
        refine ⟨ok, ?_⟩
        rw [show (nx' + 7 - 0) % 8 = nx by omega]
        exact hB'.kept ((Sa.I (by omega)).tr (Sa.I (by omega))) ((Sa.I (by omega)).tr (Sa.I (by omega)))
      | succ j =>
        simp at hj
        obtain ⟨g1, g2⟩ := ag j C hj
        refine ⟨g1, ?_⟩
        have e1 : (nx' + 7 - (j + 1)) % 8 = (nx + 7 - j) % 8 := by omega
        rw [e1]
        have hj7 : (nx + 7 - j) % 8 ≠ nx := by omega
        exact (g2.kept (hs _ (by simp; omega)) (hs _ (by simp; omega))).kept ((Sa.I (by omega)).tr (Sa.I (by omega))) ((Sa.I (by omega)).tr (Sa.I (by omega)))
    · rw [if_neg hj8] at hj
      cases hj
  by_cases h7 : nx + 1 < 8
  · rw [if_neg (show ¬ (8 : Int32) ≤ nI (nx + 1) from nI_ge (b := 8) h7 (by omega)), hq_I (k := 1) hk rfl, np.1, a1, nI_1, hq_P (k := 1) hk rfl, hq_I (k := 2) hk rfl, sI_ne S' _ (by omega), np.1, a2, hq_P (k := 2) hk rfl]
    exact hq _ (hr.tr ((Sr.I (by omega)).tr (Sr.I (by omega)))) (fin (nx + 1) (by omega))
  · rw [if_pos (show (8 : Int32) ≤ nI (nx + 1) from nI_le (a := 8) (by omega) (by omega)), hq_P (k := 1) hk rfl, hq_I (k := 2) hk rfl, sI_ne S' _ (by omega), np.1, a2, hq_P (k := 2) hk rfl]
    exact hq _ (hr.tr ((Sr.I (by omega)).tr (Sr.I (by omega)))) (fin 0 (by omega))
theorem i_giveBack_0 {S : st_S} {p pb : Nat} (hk : kd p = 2) (hP : Po S p []) {Q : aw_R} (hq : Q (some (.int 0)) (hp S)) : tr_X3_giveBack [.ref p, .ref pb] (hp S) Q := by
  rw [tq_X3_giveBack]
  unfold sm_X3_giveBack_0
  obtain ⟨hl, nx, hnx, a1, a2, ag⟩ := hP
  rw [hq_I (k := 2) hk rfl, a2, if_neg (fun q => q rfl)]
  exact hq
theorem i_giveBack {S : st_S} {p pb : Nat} {l : List bd} {B : bd} (hk : kd p = 2) (hb : kd pb = 0) (hne : ∀ i, i < 8 → p + 2 + 2 * i ≠ pb) (hP : Po S p (B :: l)) {Q : aw_R} (hq : ∀ S', Sx [p, pb, pb + 1] S S' → Po S' p l → Bok B → Bo S' pb B → Q (some (.int 1)) (hp S')) : tr_X3_giveBack [.ref p, .ref pb] (hp S) Q := by
  rw [tq_X3_giveBack]
  unfold sm_X3_giveBack_0
  obtain ⟨k1, kb⟩ := px hk
  obtain ⟨hl, nx, hnx, a1, a2, ag⟩ := hP
  have hl' : l.length + 1 ≤ 8 := hl
  have hpb : p ≠ pb := fun e => by rw [e] at hk; omega
  have hpb1 : p ≠ pb + 1 := fun e => by rw [e] at hk; have := (bx hb).1; omega
  rw [hq_I (k := 2) hk rfl, a2, if_pos (nI_ne0 (by simp) (by omega)), hq_I (k := 1) hk rfl, a1]
  have main : ∀ nx', nx' = (nx + 7) % 8 → sm_X3_giveBack_28 Q p pb p (nI nx') (hp S) := by
    intro nx' hnx'
    unfold sm_X3_giveBack_28
    rw [hq_P (k := 1) hk rfl, hq_I (k := 2) hk rfl, sI_ne S _ (by omega), a2, hq_P (k := 2) hk rfl, hq_R (k := 0) hk rfl, hq_I (k := 1) hk rfl, sI_ne _ _ (by omega), sI_at]
    show sa_R _ 3 (p + 1) (nI nx') _
    rw [ha_R3 k1]
    refine ⟨vi (by omega) (by omega), ?_⟩
    rw [cl (by omega), show p + 1 + 1 + 2 * nx' = p + 2 + 2 * nx' by omega, hv_O hb (by decide)]
    obtain ⟨okB, hB⟩ := ag 0 B rfl
    rw [show (nx + 7 - 0) % 8 = nx' by omega] at hB
    have ff : ∀ q, q ≠ p → Sa S (sI (sI S p 1 (nI nx')) p 2 (nI (B :: l).length - 1)) q := fun q hq => ⟨by funext k; simp [sI, hq], rfl, rfl⟩
    have hB2 := hB.kept (ff _ (by omega)) (ff _ (by omega))
    refine i_becomes hb (kb nx' (by omega)) (fun e => hne nx' (by omega) e.symm) hB2 okB (fun S' hs hB' => ?_)
    simp only [sr_V]
    have f2 : ∀ q, q ≠ p → q ≠ pb → q ≠ pb + 1 → Sa S S' q := fun q h1 h2 h3 => (ff q h1).tr (hs q (by simp [h2, h3]))
    refine hq S' (fun q hq => f2 q (fun e => hq (by simp [e])) (fun e => hq (by simp [e])) (fun e => hq (by simp [e]))) ?_ okB hB'
    have np := hs p (by simp [hpb, hpb1])
    refine ⟨by omega, nx', by omega, by rw [np.1]; simp [sI], ?_, fun j C hj => ?_⟩
    · rw [np.1]
      simp only [sI, and_self, if_true]
      rw [List.length_cons]
      exact nI_pred l.length
    · have hlt : j < l.length := (List.getElem?_eq_some_iff.mp hj).1
      obtain ⟨g1, g2⟩ := ag (j + 1) C (by simpa using hj)
      refine ⟨g1, ?_⟩
      have e1 : (nx + 7 - (j + 1)) % 8 = (nx' + 7 - j) % 8 := by omega
      rw [e1] at g2
      have nb := hne ((nx' + 7 - j) % 8) (by omega)
      have k2 := kb ((nx' + 7 - j) % 8) (by omega)
      have k3 := (bx hb).1
      have k4 := (bx k2).1
      have nb2 : p + 2 + 2 * ((nx' + 7 - j) % 8) ≠ pb + 1 := fun e => by rw [e] at k2; omega
      have nb3 : p + 2 + 2 * ((nx' + 7 - j) % 8) + 1 ≠ pb := fun e => by rw [e] at k4; omega
      exact g2.kept (f2 _ (by omega) nb nb2) (f2 _ (by omega) nb3 (by omega))
  by_cases h0 : nx = 0
  · rw [h0, if_pos (by decide)]
    exact main 7 (by omega)
  · rw [if_neg (nI_nle (by omega) (by omega)), hq_I (k := 1) hk rfl, a1, show nI nx - 1 = nI (nx - 1) from pk_sub (a := nx) (b := 1) (by omega)]
    exact main (nx - 1) (by omega)
theorem i_Pbecomes {S : st_S} {p0 p1 : Nat} {l : List bd} (h0 : kd p0 = 2) (h1 : kd p1 = 2) (hne : p0 + 18 ≤ p1 ∨ p1 + 18 ≤ p0) (hP : Po S p1 l) {Q : aw_R} (hq : ∀ S', Sr p0 (p0 + 18) S S' → Po S' p0 l → Q none (hp S')) : tr_X3_becomes [.ref p0, .ref p1] (hp S) Q := by
  rw [tq_X3_becomes]
  intro K2 r2
  obtain ⟨k0, kb0⟩ := px h0
  obtain ⟨k1, kb1⟩ := px h1
  have main : ∀ m x S1, x + m = 8 → Sr p0 (p0 + 18) S S1 → (∀ i, i < x → Bc S S1 (p0 + 2 + 2 * i) (p1 + 2 + 2 * i)) → K2 p0 p1 (nI x) (hp S1) := by
    intro m
    induction m with
    | zero =>
      intro x S1 e hr hc
      apply r2
      unfold sm_X3_becomes_2
      obtain ⟨hl, nx, hnx, a1, a2, ag⟩ := hP
      have n1 := hr p1 (by omega)
      rw [if_pos (show (8 : Int32) ≤ nI x from nI_le (a := 8) (by omega) (by omega)), hq_I (k := 1) h1 rfl, hq_P (k := 1) h0 rfl, hq_I (k := 2) h1 rfl, hq_P (k := 2) h0 rfl]
      refine hq _ (hr.tr ((Sr.I (by omega)).tr (Sr.I (by omega)))) ⟨hl, nx, hnx, ?_, ?_, fun j B hj => ?_⟩
      · simp [sI]
        rw [n1.1, a1]
      · have : ¬ p1 = p0 := by omega
        simp [sI, this]
        rw [n1.1, a2]
      · obtain ⟨g1, g2⟩ := ag j B hj
        exact ⟨g1, (g2.copy g1 (hc ((nx + 7 - j) % 8) (by omega))).kept ((Sa.I (by omega)).tr (Sa.I (by omega))) ((Sa.I (by omega)).tr (Sa.I (by omega)))⟩
    | succ m ih =>
      intro x S1 e hr hc
      apply r2
      unfold sm_X3_becomes_2
      rw [if_neg (show ¬ (8 : Int32) ≤ nI x from nI_ge (b := 8) (by omega) (by omega)), hq_R (k := 0) h0 rfl]
      show sa_R _ 3 (p0 + 1) (nI x) _
      rw [ha_R3 k0]
      refine ⟨vi (by omega) (by omega), ?_⟩
      rw [hq_R (k := 0) h1 rfl]
      show sa_R _ 3 (p1 + 1) (nI x) _
      rw [ha_R3 k1]
      refine ⟨vi (by omega) (by omega), ?_⟩
      rw [cl (by omega), show p0 + 1 + 1 + 2 * x = p0 + 2 + 2 * x by omega, show p1 + 1 + 1 + 2 * x = p1 + 2 + 2 * x by omega, hv_O (kb0 x (by omega)) (by decide)]
      refine i_copy (kb0 x (by omega)) (kb1 x (by omega)) (by omega) (fun S' hs hB' => ?_)
      simp only [sr_V]
      rw [nI_1]
      refine ih (x + 1) S' (by omega) (hr.tr (hs.R (fun q hq => by simp at hq; omega))) (fun i hi => ?_)
      by_cases hix : i = x
      · subst hix
        have s1 := hr (p1 + 2 + 2 * i) (by omega)
        have s2 := hr (p1 + 2 + 2 * i + 1) (by omega)
        unfold Bc at hB' ⊢
        rw [s1.1, s2.2.1] at hB'
        exact hB'
      · have s1 := hs (p0 + 2 + 2 * i) (by simp; omega)
        have s2 := hs (p0 + 2 + 2 * i + 1) (by simp; omega)
        have := hc i (by omega)
        unfold Bc at this ⊢
        rw [s1.1, s2.2.1]
        exact this
  exact main 8 0 S (by omega) (Sr.rf _ _ S) (fun i hi => by omega)
