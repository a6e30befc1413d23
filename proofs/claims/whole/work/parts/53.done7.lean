/-! gate, of, type -/
theorem e_CwiresOf {x : Int32} {h : aw_H} {Q : aw_R} : tr_X2_wiresOf [.int x] h Q = Q (some (.int (if x = 0 then 1 else if x = 1 then 2 else if x = 2 then 2 else 3))) h := by
  rw [propext tq_X2_wiresOf]
  unfold sm_X2_wiresOf_0
  by_cases h0 : x = 0
  · rw [if_neg (fun q => q h0), if_pos h0]
  · rw [if_pos h0, if_neg h0]
    by_cases h1 : x = 1
    · rw [if_pos h1, if_pos h1]
    · rw [if_neg h1, if_neg h1]
      by_cases h2 : x = 2
      · rw [if_neg (fun q => q h2), if_pos h2]
      · rw [if_pos h2, if_neg h2]
theorem e_MwiresOf {x : Int32} {h : aw_H} {Q : aw_R} : tr_X7_wiresOf [.int x] h Q = Q (some (.int (if x = 0 then 1 else if 3 ≤ x then 3 else 2))) h := by
  rw [propext tq_X7_wiresOf]
  unfold sm_X7_wiresOf_0
  by_cases h0 : x = 0
  · rw [if_neg (fun q => q h0), if_pos h0]
  · rw [if_pos h0, if_neg h0]
    split <;> rfl
/-- how many wires a kind has -/
def gwo (k : Nat) : Nat := if k = 0 then 1 else if k ≤ 2 then 2 else 3
theorem gwo_c : ∀ k, k < 5 → (if nI k = 0 then (1 : Int32) else if nI k = 1 then 2 else if nI k = 2 then 2 else 3) = nI (gwo k) := by decide +kernel
theorem gwo_m : ∀ k, k < 5 → (if nI k = 0 then (1 : Int32) else if 3 ≤ nI k then 3 else 2) = nI (gwo k) := by decide +kernel
/-- unlike, as many as the kind has -/
def gun (k a b c : Nat) : Bool := (k < 1 || a != b) && (k < 3 || (a != c && b != c))
theorem e_CareUnlike {k a b c : Nat} (hk : k < 5) (ha : a < 6) (hb : b < 6) (hc : c < 6) {h : aw_H} {Q : aw_R} : tr_X2_areUnlike [.int (nI k), .int (nI a), .int (nI b), .int (nI c)] h Q = Q (some (.int (if gun k a b c then 1 else 0))) h := by
  rw [propext tq_X2_areUnlike]
  unfold sm_X2_areUnlike_0 sm_X2_areUnlike_17
  rw [e_CwiresOf, gwo_c k hk]
  simp only [sr_I]
  have eab : nI a = nI b ↔ a = b := nI_eq (by omega) (by omega)
  have eac : nI a = nI c ↔ a = c := nI_eq (by omega) (by omega)
  have ebc : nI b = nI c ↔ b = c := nI_eq (by omega) (by omega)
  have g2 : nI (gwo k) < 2 ↔ k < 1 := (by decide +kernel : ∀ k, k < 5 → (nI (gwo k) < 2 ↔ k < 1)) k hk
  have g3 : nI (gwo k) < 3 ↔ k < 3 := (by decide +kernel : ∀ k, k < 5 → (nI (gwo k) < 3 ↔ k < 3)) k hk
  simp only [eab, eac, ebc, g2, g3]
  unfold gun
  by_cases h1 : k < 1
  · have h3 : k < 3 := by omega
    simp [h1, h3]
  · by_cases hab : a = b
    · simp [h1, hab]
    · by_cases h3 : k < 3
      · simp [h1, hab, h3]
      · by_cases hac : a = c
        · simp [h1, hab, h3, hac]
        · by_cases hbc : b = c
          · simp [h1, hab, h3, hac, hbc]
          · simp [h1, hab, h3, hac, hbc]
theorem e_MareUnlike {k a b c : Nat} (hk : k < 5) (ha : a < 6) (hb : b < 6) (hc : c < 6) {h : aw_H} {Q : aw_R} : tr_X7_areUnlike [.int (nI (gwo k)), .int (nI a), .int (nI b), .int (nI c)] h Q = Q (some (.int (if gun k a b c then 1 else 0))) h := by
  rw [propext tq_X7_areUnlike]
  unfold sm_X7_areUnlike_0
  have eab : nI a = nI b ↔ a = b := nI_eq (by omega) (by omega)
  have eac : nI a = nI c ↔ a = c := nI_eq (by omega) (by omega)
  have ebc : nI b = nI c ↔ b = c := nI_eq (by omega) (by omega)
  have g2 : nI (gwo k) = 1 ↔ k < 1 := (by decide +kernel : ∀ k, k < 5 → (nI (gwo k) = 1 ↔ k < 1)) k hk
  have g3 : nI (gwo k) = 2 ↔ (¬ k < 1 ∧ k < 3) := (by decide +kernel : ∀ k, k < 5 → (nI (gwo k) = 2 ↔ (¬ k < 1 ∧ k < 3))) k hk
  simp only [eab, eac, ebc, g2, g3]
  unfold gun
  by_cases h1 : k < 1
  · have h3 : k < 3 := by omega
    simp [h1, h3]
  · by_cases hab : a = b
    · simp [h1, hab]
    · by_cases h3 : k < 3
      · simp [h1, hab, h3]
      · by_cases hac : a = c
        · simp [h1, hab, h3, hac]
        · by_cases hbc : b = c
          · simp [h1, hab, h3, hac, hbc]
          · simp [h1, hab, h3, hac, hbc]
/-- such a gate may lie -/
def glie (k a b c : Nat) : Bool := gun k a b c && (!(k < 1) || b == 0) && (!(k < 3) || c == 0)
theorem glie_ok {w k a b c : Nat} (hk : k < 5) (ha : a < w) (hb : b < w) (hc : c < w) (h : glie k a b c = true) : gok w (k, a, b, c, 0) := by
  unfold glie gun at h
  simp at h
  refine ⟨hk, ha, hb, hc, by show (0 : Nat) < 2; omega, fun q => ?_, fun q => ?_, fun q => ?_, fun q => ?_⟩
  · have q : 1 ≤ k := q
    show a ≠ b
    omega
  · have q : 3 ≤ k := q
    show a ≠ c ∧ b ≠ c
    omega
  · have q : k < 1 := q
    show b = 0
    omega
  · have q : k < 3 := q
    show c = 0
    omega
theorem e_mayLie {k a b c w : Nat} (hk : k < 5) (ha : a < w) (hb : b < w) (hc : c < w) (hw : w ≤ 6) {h : aw_H} {Q : aw_R} : tr_X2_mayLie [.int (nI k), .int (nI a), .int (nI b), .int (nI c), .int (nI w)] h Q = Q (some (.int (if glie k a b c then 1 else 0))) h := by
  rw [propext tq_X2_mayLie]
  unfold sm_X2_mayLie_0 sm_X2_mayLie_57
  rw [if_neg (nI_pos (by omega)), if_neg (show ¬ (5 : Int32) ≤ nI k from nI_ge (b := 5) hk (by omega)), if_neg (nI_pos (by omega)), if_neg (nI_pos (by omega)), if_neg (nI_pos (by omega)), if_neg (nI_ge ha (by omega)), if_neg (nI_ge hb (by omega)), if_pos (nI_lt hc (by omega)), e_CwiresOf, gwo_c k hk]
  simp only [sr_I]
  rw [e_CareUnlike hk (by omega) (by omega) (by omega)]
  have g2 : 1 < nI (gwo k) ↔ ¬ k < 1 := (by decide +kernel : ∀ k, k < 5 → (1 < nI (gwo k) ↔ ¬ k < 1)) k hk
  have g3 : 2 < nI (gwo k) ↔ ¬ k < 3 := (by decide +kernel : ∀ k, k < 5 → (2 < nI (gwo k) ↔ ¬ k < 3)) k hk
  have eb : nI b = 0 ↔ b = 0 := nI_eq (b := 0) (by omega) (by omega)
  have ec : nI c = 0 ↔ c = 0 := nI_eq (b := 0) (by omega) (by omega)
  simp only [sr_I, g2, g3, eb, ec]
  unfold glie
  by_cases h1 : k < 1
  · have h3 : k < 3 := by omega
    by_cases hb0 : b = 0
    · by_cases hc0 : c = 0
      · cases hu : gun k a b c <;> simp [h1, h3, hb0, hc0] <;> simp_all
      · simp [h1, h3, hb0, hc0]
    · simp [h1, h3, hb0]
  · by_cases h3 : k < 3
    · by_cases hc0 : c = 0
      · cases hu : gun k a b c <;> simp [h1, h3, hc0] <;> simp_all
      · simp [h1, h3, hc0]
    · cases hu : gun k a b c <;> simp [h1, h3]
theorem gx_pack : ∀ k, k < 5 → ∀ a, a < 6 → ∀ b, b < 6 → ∀ c, c < 6 → (((nI k ||| (nI a <<< (3 &&& 31))) ||| (nI b <<< (6 &&& 31))) ||| (nI c <<< (9 &&& 31))) = nI (k + 8 * a + 64 * b + 512 * c + 4096 * 0) := by decide +kernel
def adB (B : bd) (g : gt) : bd := (bW B, bN B + 1, bB B, bP B, bD B, gput (bG B) (bN B) g)
theorem adB_ok {B : bd} (ok : Bok B) {g : gt} (hg : gok (bW B) g) (hn : bN B < 16) : Bok (adB B g) := by
  refine ⟨ok.1, hn, ok.2.2.1, by show bP B ≤ bN B + 1; have := ok.2.2.2.1; omega, ok.2.2.2.2.1, fun j hj => ?_⟩
  have hj : j < bN B + 1 := hj
  show gok (bW B) (if j = bN B then g else bG B j)
  split
  · exact hg
  · exact ok.2.2.2.2.2 j (by omega)
theorem i_Mput {S : st_S} {σ : sg} (h : MI S σ) (wf : Wf σ) {g : gt} (hn : bN σ.1 < 16) {Q : aw_R} (hq : ∀ S', Fm S S' → MI S' (adB σ.1 g, [], σ.2.2) → Q (some (.int (nI (bN σ.1)))) (hp S')) : tr_X7_put [.ref 58, .int (nI g.1), .int (nI g.2.1), .int (nI g.2.2.1), .int (nI g.2.2.2.1), .int (nI g.2.2.2.2)] (hp S) Q := by
  rw [tq_X7_put]
  unfold sm_X7_put_0
  obtain ⟨a0, a1, a2, a3, a4, ag⟩ := id h.1
  have a1 : S.2.1 59 1 = nI (bN σ.1) := a1
  have ix : (5 : Int32) + 5 * nI (bN σ.1) = nI (0 + 5 + 5 * bN σ.1) := gix 0 (bN σ.1)
  have ixk : ∀ k : Nat, nI (0 + 5 + 5 * bN σ.1) + nI k = nI (0 + 5 + 5 * bN σ.1 + k) := fun k => nI_add _ _
  rw [m_0, show (sa_I (hp S) 59 1 _) = _ from m_wn (n := 1) (by omega), a1, ix, m_0, m_wsn (by omega), sA_F, m_0, show nI (0 + 5 + 5 * bN σ.1) + 1 = nI (0 + 5 + 5 * bN σ.1 + 1) from ixk 1, m_wsn (by omega), sA_F, sF_F, m_0, show nI (0 + 5 + 5 * bN σ.1) + 2 = nI (0 + 5 + 5 * bN σ.1 + 2) from ixk 2, m_wsn (by omega), sA_F, sF_F, m_0, show nI (0 + 5 + 5 * bN σ.1) + 3 = nI (0 + 5 + 5 * bN σ.1 + 3) from ixk 3, m_wsn (by omega), sA_F, sF_F, m_0, show nI (0 + 5 + 5 * bN σ.1) + 4 = nI (0 + 5 + 5 * bN σ.1 + 4) from ixk 4, m_wsn (by omega), sA_F, sF_F, m_0, show (sa_I (hp _) 59 1 _) = _ from m_wn (n := 1) (by omega), show (ss_I (hp _) 59 1 _ _) = _ from m_wsn (n := 1) (by omega), sA_F, sF_F, m_0, show (ss_I (hp _) 59 765 _ _) = _ from m_wsn (n := 765) (by omega), sA_F, sF_F]
  simp only [sF_at]
  generalize he : (0 + 5 + 5 * bN σ.1) = e0
  have e1 : upd (upd (upd (upd (upd (S.2.1 59) e0 (nI g.1)) (e0 + 1) (nI g.2.1)) (e0 + 2) (nI g.2.2.1)) (e0 + 3) (nI g.2.2.2.1)) (e0 + 4) (nI g.2.2.2.2) 1 = nI (bN σ.1) := by
    rw [pk_un (by omega), pk_un (by omega), pk_un (by omega), pk_un (by omega), pk_un (by omega)]
    exact a1
  rw [e1, nI_1]
  generalize hf : upd (upd (upd (upd (upd (S.2.1 59) e0 (nI g.1)) (e0 + 1) (nI g.2.1)) (e0 + 2) (nI g.2.2.1)) (e0 + 3) (nI g.2.2.2.1)) (e0 + 4) (nI g.2.2.2.2) = f
  have fo : ∀ k, ¬ (e0 ≤ k ∧ k < e0 + 5) → f k = S.2.1 59 k := fun k hk => by
    rw [← hf, pk_un (by omega), pk_un (by omega), pk_un (by omega), pk_un (by omega), pk_un (by omega)]
  refine hq _ (Fm.F (by omega)) (h.w wf (fun k h1 _ => ?_) ⟨?_, ?_, ?_, ?_, ?_, fun j hj => ?_⟩ ⟨by simp, by rw [Nat.zero_add, pk_us]; rfl, fun j B hj => by simp at hj⟩)
  · rw [pk_un (by omega), pk_un (by omega), fo k (by omega)]
  · rw [pk_un (by omega), pk_un (by omega), fo _ (by omega)]; exact a0
  · rw [pk_un (by omega), Nat.zero_add, pk_us]; rfl
  · rw [pk_un (by omega), pk_un (by omega), fo _ (by omega)]; exact a2
  · rw [pk_un (by omega), pk_un (by omega), fo _ (by omega)]; exact a3
  · rw [pk_un (by omega), pk_un (by omega), fo _ (by omega)]; exact a4
  · have hj : j < bN σ.1 + 1 := hj
    have e : bG (adB σ.1 g) j = if j = bN σ.1 then g else bG σ.1 j := rfl
    rw [e]
    by_cases hjn : j = bN σ.1
    · rw [if_pos hjn]
      have hi : 0 + 5 + 5 * j = e0 := by rw [hjn]; exact he
      rw [hi, ← hf]
      refine ⟨?_, ?_, ?_, ?_, ?_⟩
      · rw [pk_un (by omega), pk_un (by omega), pk_un (by omega), pk_un (by omega), pk_un (by omega), pk_un (by omega), pk_us]
      · rw [pk_un (by omega), pk_un (by omega), pk_un (by omega), pk_un (by omega), pk_un (by omega), pk_us]
      · rw [pk_un (by omega), pk_un (by omega), pk_un (by omega), pk_un (by omega), pk_us]
      · rw [pk_un (by omega), pk_un (by omega), pk_un (by omega), pk_us]
      · rw [pk_un (by omega), pk_un (by omega), pk_us]
    · rw [if_neg hjn]
      obtain ⟨b0, b1, b2, b3, b4⟩ := ag j (by omega)
      exact ⟨by rw [pk_un (by omega), pk_un (by omega), fo _ (by omega)]; exact b0, by rw [pk_un (by omega), pk_un (by omega), fo _ (by omega)]; exact b1, by rw [pk_un (by omega), pk_un (by omega), fo _ (by omega)]; exact b2, by rw [pk_un (by omega), pk_un (by omega), fo _ (by omega)]; exact b3, by rw [pk_un (by omega), pk_un (by omega), fo _ (by omega)]; exact b4⟩
