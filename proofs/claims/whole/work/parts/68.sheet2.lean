/-! sheet, film, copy -/
theorem sG_at (S : st_S) (p : Nat) (f : Nat → Int64) : (sG S p f).2.2 p = f := by simp [sG]
theorem sG_ne (S : st_S) {p q : Nat} (f : Nat → Int64) (h : q ≠ p) : (sG S p f).2.2 q = S.2.2 q := by simp [sG, h]
theorem sG_G (S : st_S) (p : Nat) (f g : Nat → Int64) : sG (sG S p f) p g = sG S p g := by
  unfold sG
  refine Prod.ext rfl (Prod.ext rfl (funext fun q => ?_))
  by_cases h : q = p <;> simp [h]
theorem sG_self (S : st_S) (p : Nat) : sG S p (S.2.2 p) = S := by
  unfold sG
  refine Prod.ext rfl (Prod.ext rfl (funext fun q => ?_))
  by_cases h : q = p <;> simp [h]
theorem sG_2 (S : st_S) (p : Nat) (f : Nat → Int64) : (sG S p f).2.1 = S.2.1 := rfl
theorem shp_shp (σ : sg) (k : Nat) (a b : shs) : shp (shp σ k a) k b = shp σ k b := by
  unfold shp
  refine Prod.ext rfl (Prod.ext rfl (Prod.ext rfl (Prod.ext rfl (funext fun i => ?_))))
  by_cases h : i = k <;> simp [h]
theorem shp_self {σ : sg} {k : Nat} {a : shs} (h : σ.2.2.2.2 k = a) : shp σ k a = σ := by
  unfold shp
  refine Prod.ext rfl (Prod.ext rfl (Prod.ext rfl (Prod.ext rfl (funext fun i => ?_))))
  by_cases hi : i = k
  · simp [hi, h]
  · simp [hi]
theorem shp_at (σ : sg) (k : Nat) (a : shs) : (shp σ k a).2.2.2.2 k = a := if_pos rfl
theorem Wf.sh {σ : sg} (wf : Wf σ) {k la sz : Nat} {f : Nat → Int64} (hl : la < 4) (hz : sz ≤ 24) : Wf (shp σ k (some (la, sz, f))) := by
  obtain ⟨h1, h2, h3, h4, h5, h6⟩ := wf
  refine ⟨h1, h2, h3, h4, h5, fun i hi l n g e => ?_⟩
  have e : (if i = k then some (la, sz, f) else σ.2.2.2.2 i) = some (l, n, g) := e
  by_cases hik : i = k
  · rw [if_pos hik] at e
    simp only [Option.some.injEq, Prod.mk.injEq] at e
    omega
  · rw [if_neg hik] at e
    exact h6 i hi l n g e
theorem i_fillL {S : st_S} {k : Nat} (hk : k < 4) {Q : aw_R} (hq : ∀ f, (∀ j, j < 24 → f j = 0) → Q none (hp (sG S (51 + 2 * k) f))) : tr_J7_fill_d0a16 [.ref (51 + 2 * k), .long 0] (hp S) Q := by
  rw [tq_J7_fill_d0a16]
  intro K6 r6
  unfold sm_J7_fill_d0a16_0
  rw [ha_N (Or.inr (s_k k hk).2.1), (s_k k hk).2.2]
  show K6 (51 + 2 * k) 0 0 (nI 24) (hp S)
  have main : ∀ m j f, j + m = 24 → (∀ i, i < j → f i = 0) → K6 (51 + 2 * k) 0 (nI j) (nI 24) (hp (sG S (51 + 2 * k) f)) := by
    intro m
    induction m with
    | zero =>
      intro j f e hf
      apply r6
      unfold sm_J7_fill_d0a16_6
      rw [if_pos (nI_le (by omega) (by omega))]
      exact hq f (fun i hi => hf i (by omega))
    | succ m ih =>
      intro j f e hf
      apply r6
      unfold sm_J7_fill_d0a16_6
      rw [if_neg (nI_ge (by omega) (by omega)), hs_L (s_k k hk).2.1, (s_k k hk).2.2]
      refine ⟨vi (by omega) (by omega), ?_⟩
      rw [cl (by omega), sL_G, sG_G, sG_at, nI_1]
      refine ih (j + 1) _ (by omega) (fun i hi => ?_)
      by_cases hij : i = j
      · rw [hij, pk_uLs]
      · rw [pk_uLn hij, hf i (by omega)]
  have := main 24 0 (S.2.2 (51 + 2 * k)) (by omega) (fun i hi => absurd hi (Nat.not_lt_zero i))
  rw [sG_self] at this
  exact this
theorem op_sheet {σ : sg} (wf : Wf σ) (x y z : Int32) : Op tr_X6_sheet tr_X7_sheet σ [.int x, .int y, .int z] := by
  have wz := wf.2.2.2.2.2
  rcases in_4 x with ⟨k, hk, rfl, e1⟩ | e1
  · rcases in_4 y with ⟨la, hla, rfl, e2⟩ | e2
    · by_cases h24 : z ≤ 24
      · by_cases h0 : 0 ≤ z
        · obtain ⟨n, hn, rfl⟩ := nI_of (x := z) (by rw [Int32.lt_iff_toInt_lt]; have := Int32.le_iff_toInt_le.mp h0; omega)
          have hn24 : n ≤ 24 := (nI_leI hn (by omega)).mp (show nI n ≤ nI 24 from h24)
          refine ⟨nI n, shp σ k (some (la, n, fun _ => 0)), fun S Q h hq => ?_, fun S Q h hq => ?_⟩
          · rw [tq_X6_sheet]; unfold sm_X6_sheet_0
            rw [e_CisLane, e1, if_neg (by decide), e2]
            simp only [sr_I]
            rw [if_neg (by decide), if_pos h24, if_pos h0, c_8, s_r hk, s_v hk, tq_X4_begin]
            unfold sm_X4_begin_0
            rw [hq_P (k := 0) (s_k k hk).1 rfl, hq_P (k := 1) (s_k k hk).1 rfl, hq_P (k := 2) (s_k k hk).1 rfl, s_3 hk]
            refine i_fillL hk (fun f hf => ?_)
            simp only [sr_V]
            have sx : Sx [50 + 2 * k, 51 + 2 * k] S (sG (sI (sI (sI S (50 + 2 * k) 0 1) (50 + 2 * k) 1 (nI la)) (50 + 2 * k) 2 (nI n)) (51 + 2 * k) f) := (((Sx.I (by simp)).tr (Sx.I (by simp))).tr (Sx.I (by simp))).tr (Sx.G (by simp))
            refine hq _ (sx.fc (by simp; omega)) (h.sh (fun q _ q1 q2 => sx q (by simp [q1, q2])) hk ⟨hla, hn24, ?_, ?_, ?_, fun j hj => ?_⟩)
            · show (sI (sI (sI S (50 + 2 * k) 0 1) (50 + 2 * k) 1 (nI la)) (50 + 2 * k) 2 (nI n)).1 (50 + 2 * k) 0 = 1
              rw [sI_ne _ _ (by omega), sI_ne _ _ (by omega), sI_at]
            · show (sI (sI (sI S (50 + 2 * k) 0 1) (50 + 2 * k) 1 (nI la)) (50 + 2 * k) 2 (nI n)).1 (50 + 2 * k) 1 = nI la
              rw [sI_ne _ _ (by omega), sI_at]
            · show (sI (sI (sI S (50 + 2 * k) 0 1) (50 + 2 * k) 1 (nI la)) (50 + 2 * k) 2 (nI n)).1 (50 + 2 * k) 2 = nI n
              rw [sI_at]
            · rw [sG_at]
              exact hf j (by omega)
          · rw [tq_X7_sheet]
            intro K46 r46
            unfold sm_X7_sheet_0
            rw [e_MisSheet, e1]
            simp only [sr_I]
            rw [if_neg (by decide), e_MisLane, e2]
            simp only [sr_I]
            rw [if_neg (by decide), if_pos h24, if_pos h0, m_5, l_s rfl rfl hk, sA_F, m_6, l_s rfl rfl hk, sA_F]
            have main : ∀ m j f, j + m = n → (∀ i, (i < 24 * k ∨ 24 * k + 24 ≤ i) → f i = S.2.2 61 i) → (∀ i, i < j → f (24 * k + i) = 0) → K46 58 (nI k) (nI n) (nI j) (hp (sG (sF (sF S 62 (upd (S.2.1 62) k (nI la))) 63 (upd ((sF S 62 (upd (S.2.1 62) k (nI la))).2.1 63) k (nI n))) 61 f)) := by
              intro m
              induction m with
              | zero =>
                intro j f e hf1 hf2
                apply r46
                unfold sm_X7_sheet_46
                rw [if_pos (nI_le (by omega) (by omega))]
                refine hq _ (((Fm.F (by omega)).tr (Fm.F (by omega))).tr (Fm.G (by omega))) (h.sh ?_ rfl ?_ (fun i hi => ?_))
                · rw [sG_2, sF_ne _ _ (by omega), sF_ne _ _ (by omega)]
                · rw [sG_2, sF_ne _ _ (by omega), sF_ne _ _ (by omega)]
                · have h5 := h.2.2.2.2 i hi
                  by_cases hik : i = k
                  · rw [if_pos hik, hik]
                    refine ⟨?_, ?_, fun t ht => ?_⟩
                    · rw [sG_2, sF_at, pk_us]
                    · rw [sG_2, sF_ne _ _ (by omega), sF_at, pk_us]
                    · rw [sG_at]
                      exact hf2 t (by omega)
                  · rw [if_neg hik]
                    cases e : σ.2.2.2.2 i with
                    | none =>
                      rw [e] at h5
                      unfold Hm at h5 ⊢
                      rw [sG_2, sF_at, pk_un hik, sF_ne _ _ (by omega)]
                      exact h5
                    | some q =>
                      obtain ⟨l2, n2, f2⟩ := q
                      rw [e] at h5
                      have hz' := wz i hi l2 n2 f2 e
                      obtain ⟨b1, b2, b3⟩ := h5
                      refine ⟨?_, ?_, fun t ht => ?_⟩
                      · rw [sG_2, sF_at, pk_un hik, sF_ne _ _ (by omega)]
                        exact b1
                      · rw [sG_2, sF_ne _ _ (by omega), sF_at, pk_un hik]
                        exact b2
                      · rw [sG_at, hf1 _ (by omega)]
                        exact b3 t ht
              | succ m ih =>
                intro j f e hf1 hf2
                apply r46
                unfold sm_X7_sheet_46
                rw [if_neg (nI_ge (by omega) (by omega)), m_4, nI_d, m_ls (by omega), sL_G, sG_G, sG_at, nI_1]
                refine ih (j + 1) _ (by omega) (fun i hi => ?_) (fun i hi => ?_)
                · rw [pk_uLn (by omega)]
                  exact hf1 i hi
                · by_cases hij : i = j
                  · rw [hij, pk_uLs]
                  · rw [pk_uLn (by omega)]
                    exact hf2 i (by omega)
            have := main n 0 (S.2.2 61) (by omega) (fun _ _ => rfl) (fun i hi => absurd hi (Nat.not_lt_zero i))
            rw [show sG (sF (sF S 62 (upd (S.2.1 62) k (nI la))) 63 (upd ((sF S 62 (upd (S.2.1 62) k (nI la))).2.1 63) k (nI n))) 61 (S.2.2 61) = sF (sF S 62 (upd (S.2.1 62) k (nI la))) 63 (upd ((sF S 62 (upd (S.2.1 62) k (nI la))).2.1 63) k (nI n)) from sG_self _ 61] at this
            exact this
        · refine Op.same (-14) (fun S Q h hq => ?_) (fun S Q h hq => ?_)
          · rw [tq_X6_sheet]; unfold sm_X6_sheet_0
            rw [e_CisLane, e1, if_neg (by decide), e2]
            simp only [sr_I]
            rw [if_neg (by decide), if_pos h24, if_neg h0]
            exact hq
          · rw [tq_X7_sheet]; intro K r; unfold sm_X7_sheet_0
            rw [e_MisSheet, e1]
            simp only [sr_I]
            rw [if_neg (by decide), e_MisLane, e2]
            simp only [sr_I]
            rw [if_neg (by decide), if_pos h24, if_neg h0]
            exact hq
      · refine Op.same (-1) (fun S Q h hq => ?_) (fun S Q h hq => ?_)
        · rw [tq_X6_sheet]; unfold sm_X6_sheet_0
          rw [e_CisLane, e1, if_neg (by decide), e2]
          simp only [sr_I]
          rw [if_neg (by decide), if_neg h24]
          exact hq
        · rw [tq_X7_sheet]; intro K r; unfold sm_X7_sheet_0
          rw [e_MisSheet, e1]
          simp only [sr_I]
          rw [if_neg (by decide), e_MisLane, e2]
          simp only [sr_I]
          rw [if_neg (by decide), if_neg h24]
          exact hq
    · refine Op.same (-1) (fun S Q h hq => ?_) (fun S Q h hq => ?_)
      · rw [tq_X6_sheet]; unfold sm_X6_sheet_0
        rw [e_CisLane, e1, if_neg (by decide), e2]
        simp only [sr_I]
        rw [if_pos (by decide)]
        exact hq
      · rw [tq_X7_sheet]; intro K r; unfold sm_X7_sheet_0
        rw [e_MisSheet, e1]
        simp only [sr_I]
        rw [if_neg (by decide), e_MisLane, e2]
        simp only [sr_I]
        rw [if_pos (by decide)]
        exact hq
  · refine Op.same (-1) (fun S Q h hq => ?_) (fun S Q h hq => ?_)
    · rw [tq_X6_sheet]; unfold sm_X6_sheet_0
      rw [e_CisLane, e1, if_pos rfl]
      simp only [sr_I]
      rw [if_pos (by decide)]
      exact hq
    · rw [tq_X7_sheet]; intro K r; unfold sm_X7_sheet_0
      rw [e_MisSheet, e1]
      simp only [sr_I]
      rw [if_pos (by decide)]
      exact hq
/-! film -/
def ars (N : Nat) (m x y : Int32) : Int32 := if inb x 0 (nI N - 1) = 0 then 0 else if y < 1 then 0 else if m < y then 0 else if nI N < x + y then 0 else 1
theorem e_ars {S : st_S} {B : bd} (hB : Bo S 1 B) (ok : Bok B) {x y m : Int32} {Q : aw_R} : tr_X6_areStates [.ref 0, .int x, .int y, .int m] (hp S) Q = Q (some (.int (ars (2 ^ bW B) m x y))) (hp S) := by
  rw [propext tq_X6_areStates]
  unfold sm_X6_areStates_0 ars
  rw [c_v, e_CisState hB ok]
  simp only [sr_I]
  split
  · rfl
  · split
    · rfl
    · split
      · rfl
      · rw [c_0, b_v, e_Bstates k1 hB ok]
        simp only [sr_I]
        split <;> rfl
theorem ars_c {N M : Nat} (hN : N ≤ 64) (hM : M ≤ 24) (x y : Int32) : (∃ s n, x = nI s ∧ y = nI n ∧ 1 ≤ n ∧ n ≤ M ∧ s + n ≤ N ∧ ars N (nI M) x y = 1 ∧ inb x 0 (nI N - 1) = 1 ∧ inb y 1 (nI M) = 1 ∧ ¬ nI N < x + y) ∨ (ars N (nI M) x y = 0 ∧ (inb x 0 (nI N - 1) = 0 ∨ inb y 1 (nI M) = 0 ∨ nI N < x + y)) := by
  unfold ars
  rcases inb_nat (x := x) (n := N) (by omega) with ⟨s, hs, rfl, e⟩ | ⟨_, e⟩
  · rw [e, if_neg (by decide)]
    by_cases h1 : y < 1
    · rw [if_pos h1]
      exact Or.inr ⟨rfl, Or.inr (Or.inl (if_pos h1))⟩
    · rw [if_neg h1]
      by_cases h2 : nI M < y
      · rw [if_pos h2]
        refine Or.inr ⟨rfl, Or.inr (Or.inl ?_)⟩
        unfold inb
        rw [if_neg h1, if_pos h2]
      · rw [if_neg h2]
        have e2 : inb y 1 (nI M) = 1 := by
          unfold inb
          rw [if_neg h1, if_neg h2]
        obtain ⟨n, hn, rfl⟩ := nI_of (x := y) (fun q => h1 (by
          have q := Int32.lt_iff_toInt_lt.mp q
          have z0 : ((0 : Int32)).toInt = 0 := by decide
          have z1 : ((1 : Int32)).toInt = 1 := by decide
          exact Int32.lt_iff_toInt_lt.mpr (by omega)))
        have n1 : 1 ≤ n := Nat.pos_of_ne_zero (fun q => h1 (by rw [q]; decide))
        have n2 : n ≤ M := Nat.not_lt.mp (fun q => h2 (nI_lt q hn))
        by_cases h3 : nI N < nI s + nI n
        · rw [if_pos h3]
          exact Or.inr ⟨rfl, Or.inr (Or.inr h3)⟩
        · rw [if_neg h3]
          refine Or.inl ⟨s, n, rfl, rfl, n1, n2, ?_, rfl, rfl, e2, h3⟩
          rw [nI_add] at h3
          exact Nat.not_lt.mp (fun q => h3 (nI_lt q (by omega)))
  · rw [e, if_pos rfl]
    exact Or.inr ⟨rfl, Or.inl rfl⟩
theorem cut_s : ∀ la, la < 4 → ∀ v, v < 64 → cutv la (Int32.toInt64 (nI v)) = Int32.toInt64 (nI v) := by decide +kernel
theorem put_s {f g : Nat → Int64} {a t : Nat} {v : Int64} (hv : v = g t) : updL (fb_put f g a t) (a + t) v = fb_put f g a (t + 1) := by
  funext k
  unfold updL
  by_cases h : k = a + t
  · rw [if_pos h, h, fb_put_in (by omega) (by omega), hv, show a + t - a = t by omega]
  · rw [if_neg h]
    by_cases h2 : a ≤ k ∧ k < a + t
    · rw [fb_put_in h2.1 h2.2, fb_put_in h2.1 (by omega)]
    · rw [fb_put_out (by omega), fb_put_out (by omega)]
def flg (B : bd) (s : Nat) : Nat → Int64 := fun t => Int32.toInt64 (nI (rn B (s + t)))
theorem op_film {σ : sg} (wf : Wf σ) (x y z u w : Int32) : Op tr_X6_film tr_X7_film σ [.int x, .int y, .int z, .int u, .int w] := by
  have wz := wf.2.2.2.2.2
  have ok := wf.1
  have hw := pw_le ok.1.2
  rcases ars_c hw (Nat.le_refl 24) x y with ⟨s, n, rfl, rfl, n1, n2, hsn, ea, ei, en, ex⟩ | ⟨ea, hbad⟩
  · have ea : ars (2 ^ bW σ.1) 24 (nI s) (nI n) = 1 := ea
    have en : inb (nI n) 1 24 = 1 := en
    have cls : ∀ S Q, CI S σ → ∀ (K : Nat → Int32 → Int32 → Int32 → Nat → Int32 → aw_H → Prop), (if (if inb z 0 3 = 0 then (0 : Int32) else inb u 0 3) = 0 then Q (some (.int (-1))) (hp S) else (sg_R (hp S) 0 5 8 fun q7 => sa_R (hp S) 4 q7 z fun q8 => sv_O (hp S) q8 3 (tr_X4_faultOf [.ref q8, .int u, .int w, .int (nI n)] (hp S) fun r10 h9 => sr_I r10 fun v11 => if v11 = 0 then (K 0 (nI s) (nI n) w q8 0 h9) else (Q (some (.int v11)) h9)))) → sm_X6_film_0 K Q 0 (nI s) (nI n) z u w (hp S) := by
      intro S Q h K hk
      unfold sm_X6_film_0
      rw [c_v, e_ars h.1.2 h.1.1, ea]
      simp only [sr_I]
      rw [if_neg (by decide), e_CisLane]
      simp only [sr_I]
      by_cases hc : (if inb z 0 3 = 0 then (0 : Int32) else inb u 0 3) = 0
      · rw [if_pos hc] at hk
        rw [if_neg (fun q => q hc)]
        exact hk
      · rw [if_neg hc] at hk
        rw [if_pos hc]
        exact hk
    have mdl : ∀ S Q, MI S σ → ∀ (K : Nat → Int32 → Int32 → Int32 → Int32 → Int32 → aw_H → Prop), (if inb z 0 3 = 0 then Q (some (.int (-1))) (hp S) else if inb u 0 3 = 0 then Q (some (.int (-1))) (hp S) else (tr_X7_found [.ref 58, .int z, .int u, .int w, .int (nI n)] (hp S) fun r17 h16 => sr_I r17 fun v18 => if 0 ≤ v18 then (K 58 (nI s) (nI n) z w 0 h16) else (Q (some (.int v18)) h16))) → sm_X7_film_0 K Q 58 (nI s) (nI n) z u w (hp S) := by
      intro S Q h K hk
      unfold sm_X7_film_0
      rw [m_v, e_MisState h.1 ok, ei]
      simp only [sr_I]
      rw [if_neg (by decide), e_in, en]
      simp only [sr_I]
      rw [if_neg (by decide), m_v, e_Mstates h.1 ok]
      simp only [sr_I]
      rw [if_neg ex, e_MisSheet]
      simp only [sr_I]
      by_cases h1 : inb z 0 3 = 0
      · rw [if_pos h1] at hk ⊢
        exact hk
      · rw [if_neg h1] at hk ⊢
        rw [e_MisLane]
        simp only [sr_I]
        by_cases h2 : inb u 0 3 = 0
        · rw [if_pos h2] at hk
          rw [if_neg (fun q => q h2)]
          exact hk
        · rw [if_neg h2] at hk
          rw [if_pos h2, m_v]
          exact hk
    rcases in_4 z with ⟨k, hk, rfl, e1⟩ | e1
    · rcases in_4 u with ⟨la, hla, rfl, e2⟩ | e2
      · by_cases hf : fnd (σ.2.2.2.2 k) (nI la) w (nI n) = 0
        · obtain ⟨sz, f, a, b, hs, rfl, hb, hab, hz⟩ := fnd_ok hla (fun l sz f e => wz k hk l sz f e) hf
          have hbn : n = b := (nI_eq (by omega) (by omega)).mp hb
          subst hbn
          refine ⟨nI n, shp σ k (some (la, sz, fb_put f (flg σ.1 s) a n)), fun S Q h hq => ?_, fun S Q h hq => ?_⟩
          · rw [tq_X6_film]
            intro K53 r53
            refine cls S Q h K53 ?_
            rw [e1, e2, if_neg (show ¬ (if (1 : Int32) = 0 then (0 : Int32) else 1) = 0 by decide), c_8, s_r hk, s_v hk, e_faultOf hk (h.2.2.2.2 k hk), hf]
            simp only [sr_I]
            rw [if_pos trivial]
            have main : ∀ m t S1, t + m = n → Fc S S1 → CI S1 (shp σ k (some (la, sz, fb_put f (flg σ.1 s) a t))) → K53 0 (nI s) (nI n) (nI a) (50 + 2 * k) (nI t) (hp S1) := by
              intro m
              induction m with
              | zero =>
                intro t S1 e f1 h1
                apply r53
                unfold sm_X6_film_53
                rw [if_pos (nI_le (by omega) (by omega))]
                rw [show t = n by omega] at h1
                exact hq S1 f1 h1
              | succ m ih =>
                intro t S1 e f1 h1
                apply r53
                unfold sm_X6_film_53
                have ho := h1.2.2.2.2 k hk
                rw [shp_at] at ho
                rw [if_neg (nI_ge (by omega) (by omega)), c_0, b_v, nI_add, nI_add]
                refine i_run k1 h1.1.2 h1.1.1 (show s + t < 64 by omega) ?_
                simp only [sr_I]
                rw [s_v hk, e_put hk ho (by omega)]
                simp only [sr_V]
                rw [nI_1]
                have r64 : rn σ.1 (s + t) < 64 := rn_64 ok (rn_w ok (by omega))
                refine ih (t + 1) _ (by omega) (f1.tr ((Sx.L (ps := [51 + 2 * k]) (by simp)).fc (by simp; omega))) ?_
                have h2 := h1.sh (fun q _ _ q2 => Sx.sh q2) hk (ho.put (a + t) (cutv la (Int32.toInt64 (nI (rn σ.1 (s + t))))))
                rw [shp_shp, put_s (cut_s la hla _ r64)] at h2
                exact h2
            exact main n 0 S (by omega) (Fc.rf S) (by rw [fb_put_0, shp_self hs]; exact h)
          · rw [tq_X7_film]
            intro K68 r68
            refine mdl S Q h K68 ?_
            rw [e1, if_neg (by decide), e2, if_neg (by decide), e_found hk (h.2.2.2.2 k hk) (fun l sz f e => (wz k hk l sz f e).2), hf]
            simp only [sr_I]
            rw [if_pos (by decide)]
            have main : ∀ m t S1, t + m = n → Fm S S1 → MI S1 (shp σ k (some (la, sz, fb_put f (flg σ.1 s) a t))) → K68 58 (nI s) (nI n) (nI k) (nI a) (nI t) (hp S1) := by
              intro m
              induction m with
              | zero =>
                intro t S1 e f1 h1
                apply r68
                unfold sm_X7_film_68
                rw [if_pos (nI_le (by omega) (by omega))]
                rw [show t = n by omega] at h1
                exact hq S1 f1 h1
              | succ m ih =>
                intro t S1 e f1 h1
                apply r68
                unfold sm_X7_film_68
                have wf1 : Wf (shp σ k (some (la, sz, fb_put f (flg σ.1 s) a t))) := wf.sh hla hz
                rw [if_neg (nI_ge (by omega) (by omega)), m_4, m_v, nI_add]
                refine e_Mrun0 h1.1 ok (show s + t < 64 by omega) ?_
                simp only [sr_I]
                rw [nI_d, nI_add, m_ls (by omega), nI_1]
                have h2 := h1.sh (S' := sL S1 61 (24 * k + (a + t)) (Int32.toInt64 (nI (rn σ.1 (s + t))))) rfl rfl rfl (Hm.put h1 hk (shp_at _ _ _) wf1.2.2.2.2.2 (by omega) _)
                rw [shp_shp, put_s (show Int32.toInt64 (nI (rn σ.1 (s + t))) = flg σ.1 s t from rfl)] at h2
                rw [show 24 * k + a + t = 24 * k + (a + t) by omega]
                exact ih (t + 1) _ (by omega) (f1.tr (Fm.G (by omega))) h2
            exact main n 0 S (by omega) (Fm.rf S) (by rw [fb_put_0, shp_self hs]; exact h)
        · refine Op.same (fnd (σ.2.2.2.2 k) (nI la) w (nI n)) (fun S Q h hq => ?_) (fun S Q h hq => ?_)
          · rw [tq_X6_film]
            intro K53 r53
            refine cls S Q h K53 ?_
            rw [e1, e2, if_neg (show ¬ (if (1 : Int32) = 0 then (0 : Int32) else 1) = 0 by decide), c_8, s_r hk, s_v hk, e_faultOf hk (h.2.2.2.2 k hk)]
            simp only [sr_I]
            rw [if_neg hf]
            exact hq
          · rw [tq_X7_film]
            intro K68 r68
            refine mdl S Q h K68 ?_
            rw [e1, if_neg (by decide), e2, if_neg (by decide), e_found hk (h.2.2.2.2 k hk) (fun l sz f e => (wz k hk l sz f e).2)]
            simp only [sr_I]
            rw [if_neg (fnd_neg hf)]
            exact hq
      · refine Op.same (-1) (fun S Q h hq => ?_) (fun S Q h hq => ?_)
        · rw [tq_X6_film]
          intro K53 r53
          refine cls S Q h K53 ?_
          rw [e1, e2, if_pos (show (if (1 : Int32) = 0 then (0 : Int32) else 0) = 0 by decide)]
          exact hq
        · rw [tq_X7_film]
          intro K68 r68
          refine mdl S Q h K68 ?_
          rw [e1, if_neg (by decide), e2, if_pos rfl]
          exact hq
    · refine Op.same (-1) (fun S Q h hq => ?_) (fun S Q h hq => ?_)
      · rw [tq_X6_film]
        intro K53 r53
        refine cls S Q h K53 ?_
        rw [e1, if_pos (show (if (0 : Int32) = 0 then (0 : Int32) else inb u 0 3) = 0 from if_pos rfl)]
        exact hq
      · rw [tq_X7_film]
        intro K68 r68
        refine mdl S Q h K68 ?_
        rw [e1, if_pos rfl]
        exact hq
  · have ea : ars (2 ^ bW σ.1) 24 x y = 0 := ea
    have hbad : inb x 0 (nI (2 ^ bW σ.1) - 1) = 0 ∨ inb y 1 24 = 0 ∨ nI (2 ^ bW σ.1) < x + y := hbad
    refine Op.same (-1) (fun S Q h hq => ?_) (fun S Q h hq => ?_)
    · rw [tq_X6_film]
      intro K53 r53
      unfold sm_X6_film_0
      rw [c_v, e_ars h.1.2 h.1.1, ea]
      simp only [sr_I]
      rw [if_pos (by decide)]
      exact hq
    · rw [tq_X7_film]
      intro K68 r68
      unfold sm_X7_film_0
      rw [m_v, e_MisState h.1 ok]
      simp only [sr_I]
      split
      · exact hq
      rename_i c1
      rw [e_in]
      simp only [sr_I]
      split
      · exact hq
      rename_i c2
      rw [m_v, e_Mstates h.1 ok]
      simp only [sr_I]
      split
      · exact hq
      · rename_i c3
        exfalso
        rcases hbad with q | q | q
        · exact c1 q
        · exact c2 q
        · exact c3 q
