/-! THE LAW: the calls, one behind the other -/
theorem sx_r {len : Nat} {xs : Nat → Int32} {n : Nat} (h : n < len) (hl : len ≤ 3584) {K : Int32 → Prop} : sx_I len xs (nI n) K = K (xs n) := by
  unfold sx_I
  rw [cl (by omega)]
  exact propext ⟨fun q => q.2, fun q => ⟨vi h (by omega), q⟩⟩
theorem sx_Ni {len : Nat} {K : Int32 → Prop} : sx_N len K = K (Int32.ofNat len) := rfl
theorem sr_Ii {a : Int32} {K : Int32 → Prop} : sr_I (some (.int a)) K = K a := rfl
theorem lw_204 {K18 : Nat → Nat → Int32 → aw_H → Prop} {len : Nat} {xs : Nat → Int32} {Q : aw_R} {i : Nat} {S : st_S} {σ : sg} (hC : CI S σ) (hM : MI S σ) (hi : i + 7 ≤ len) (hl : len ≤ 3584) (next : ∀ S' σ', CI S' σ' → MI S' σ' → K18 0 58 (nI i + 7) (hp S')) : sm_L_law_204 K18 len xs Q 0 58 (nI i) (hp S) := by
  unfold sm_L_law_204
  have r1 : ∀ K : Int32 → Prop, sx_I len xs (nI i + 1) K = K (xs (i + 1)) := fun K => by rw [show nI i + (1 : Int32) = nI (i + 1) from nI_add i 1]; exact sx_r (by omega) hl
  rw [r1, c_v]
  obtain ⟨a, σ', hc, hm⟩ := op_wires hC.wf (xs (i + 1))
  refine hc S _ hC (fun S1 f1 c1 => ?_)
  rw [sr_Ii, r1, m_v]
  refine hm S1 _ (hM.kept f1) (fun S2 f2 m2 => ?_)
  rw [sr_Ii, if_pos rfl]
  exact next S2 σ' (c1.kept f2) m2
theorem lw_227 {K18 : Nat → Nat → Int32 → aw_H → Prop} {len : Nat} {xs : Nat → Int32} {Q : aw_R} {i : Nat} {S : st_S} {σ : sg} (hC : CI S σ) (hM : MI S σ) (hi : i + 7 ≤ len) (hl : len ≤ 3584) (next : ∀ S' σ', CI S' σ' → MI S' σ' → K18 0 58 (nI i + 7) (hp S')) : sm_L_law_227 K18 len xs Q 0 58 (nI i) (hp S) := by
  unfold sm_L_law_227
  have r1 : ∀ K : Int32 → Prop, sx_I len xs (nI i + 1) K = K (xs (i + 1)) := fun K => by rw [show nI i + (1 : Int32) = nI (i + 1) from nI_add i 1]; exact sx_r (by omega) hl
  have r2 : ∀ K : Int32 → Prop, sx_I len xs (nI i + 2) K = K (xs (i + 2)) := fun K => by rw [show nI i + (2 : Int32) = nI (i + 2) from nI_add i 2]; exact sx_r (by omega) hl
  have r3 : ∀ K : Int32 → Prop, sx_I len xs (nI i + 3) K = K (xs (i + 3)) := fun K => by rw [show nI i + (3 : Int32) = nI (i + 3) from nI_add i 3]; exact sx_r (by omega) hl
  have r4 : ∀ K : Int32 → Prop, sx_I len xs (nI i + 4) K = K (xs (i + 4)) := fun K => by rw [show nI i + (4 : Int32) = nI (i + 4) from nI_add i 4]; exact sx_r (by omega) hl
  rw [r1, r2, r3, r4, c_v]
  obtain ⟨a, σ', hc, hm⟩ := op_gate hC.wf (xs (i + 1)) (xs (i + 2)) (xs (i + 3)) (xs (i + 4))
  refine hc S _ hC (fun S1 f1 c1 => ?_)
  rw [sr_Ii, r1, r2, r3, r4, m_v]
  refine hm S1 _ (hM.kept f1) (fun S2 f2 m2 => ?_)
  rw [sr_Ii, if_pos rfl]
  exact next S2 σ' (c1.kept f2) m2
theorem lw_280 {K18 : Nat → Nat → Int32 → aw_H → Prop} {len : Nat} {xs : Nat → Int32} {Q : aw_R} {i : Nat} {S : st_S} {σ : sg} (hC : CI S σ) (hM : MI S σ) (hi : i + 7 ≤ len) (hl : len ≤ 3584) (next : ∀ S' σ', CI S' σ' → MI S' σ' → K18 0 58 (nI i + 7) (hp S')) : sm_L_law_280 K18 len xs Q 0 58 (nI i) (hp S) := by
  unfold sm_L_law_280
  have r1 : ∀ K : Int32 → Prop, sx_I len xs (nI i + 1) K = K (xs (i + 1)) := fun K => by rw [show nI i + (1 : Int32) = nI (i + 1) from nI_add i 1]; exact sx_r (by omega) hl
  have r2 : ∀ K : Int32 → Prop, sx_I len xs (nI i + 2) K = K (xs (i + 2)) := fun K => by rw [show nI i + (2 : Int32) = nI (i + 2) from nI_add i 2]; exact sx_r (by omega) hl
  rw [r1, r2, c_v]
  obtain ⟨a, σ', hc, hm⟩ := op_of hC.wf (xs (i + 1)) (xs (i + 2))
  refine hc S _ hC (fun S1 f1 c1 => ?_)
  rw [sr_Ii, r1, r2, m_v]
  refine hm S1 _ (hM.kept f1) (fun S2 f2 m2 => ?_)
  rw [sr_Ii, if_pos rfl]
  exact next S2 σ' (c1.kept f2) m2
theorem lw_313 {K18 : Nat → Nat → Int32 → aw_H → Prop} {len : Nat} {xs : Nat → Int32} {Q : aw_R} {i : Nat} {S : st_S} {σ : sg} (hC : CI S σ) (hM : MI S σ) (hi : i + 7 ≤ len) (hl : len ≤ 3584) (next : ∀ S' σ', CI S' σ' → MI S' σ' → K18 0 58 (nI i + 7) (hp S')) : sm_L_law_313 K18 len xs Q 0 58 (nI i) (hp S) := by
  unfold sm_L_law_313
  have r1 : ∀ K : Int32 → Prop, sx_I len xs (nI i + 1) K = K (xs (i + 1)) := fun K => by rw [show nI i + (1 : Int32) = nI (i + 1) from nI_add i 1]; exact sx_r (by omega) hl
  have r2 : ∀ K : Int32 → Prop, sx_I len xs (nI i + 2) K = K (xs (i + 2)) := fun K => by rw [show nI i + (2 : Int32) = nI (i + 2) from nI_add i 2]; exact sx_r (by omega) hl
  rw [r1, r2, c_v]
  obtain ⟨a, σ', hc, hm⟩ := op_does hC.wf (xs (i + 1)) (xs (i + 2))
  refine hc S _ hC (fun S1 f1 c1 => ?_)
  rw [sr_Ii, r1, r2, m_v]
  refine hm S1 _ (hM.kept f1) (fun S2 f2 m2 => ?_)
  rw [sr_Ii, if_pos rfl]
  exact next S2 σ' (c1.kept f2) m2
theorem lw_346 {K18 : Nat → Nat → Int32 → aw_H → Prop} {len : Nat} {xs : Nat → Int32} {Q : aw_R} {i : Nat} {S : st_S} {σ : sg} (hC : CI S σ) (hM : MI S σ) (hi : i + 7 ≤ len) (hl : len ≤ 3584) (next : ∀ S' σ', CI S' σ' → MI S' σ' → K18 0 58 (nI i + 7) (hp S')) : sm_L_law_346 K18 len xs Q 0 58 (nI i) (hp S) := by
  unfold sm_L_law_346
  have r1 : ∀ K : Int32 → Prop, sx_I len xs (nI i + 1) K = K (xs (i + 1)) := fun K => by rw [show nI i + (1 : Int32) = nI (i + 1) from nI_add i 1]; exact sx_r (by omega) hl
  rw [r1, c_v]
  obtain ⟨a, σ', hc, hm⟩ := op_type hC.wf (xs (i + 1))
  refine hc S _ hC (fun S1 f1 c1 => ?_)
  rw [sr_Ii, r1, m_v]
  refine hm S1 _ (hM.kept f1) (fun S2 f2 m2 => ?_)
  rw [sr_Ii, if_pos rfl]
  exact next S2 σ' (c1.kept f2) m2
theorem lw_369 {K18 : Nat → Nat → Int32 → aw_H → Prop} {len : Nat} {xs : Nat → Int32} {Q : aw_R} {i : Nat} {S : st_S} {σ : sg} (hC : CI S σ) (hM : MI S σ) (hi : i + 7 ≤ len) (hl : len ≤ 3584) (next : ∀ S' σ', CI S' σ' → MI S' σ' → K18 0 58 (nI i + 7) (hp S')) : sm_L_law_369 K18 len xs Q 0 58 (nI i) (hp S) := by
  unfold sm_L_law_369
  rw [c_v]
  obtain ⟨a, σ', hc, hm⟩ := op_circuit hC.wf 
  refine hc S _ hC (fun S1 f1 c1 => ?_)
  rw [sr_Ii, m_v]
  refine hm S1 _ (hM.kept f1) (fun S2 f2 m2 => ?_)
  rw [sr_Ii, if_pos rfl]
  exact next S2 σ' (c1.kept f2) m2
theorem lw_382 {K18 : Nat → Nat → Int32 → aw_H → Prop} {len : Nat} {xs : Nat → Int32} {Q : aw_R} {i : Nat} {S : st_S} {σ : sg} (hC : CI S σ) (hM : MI S σ) (hi : i + 7 ≤ len) (hl : len ≤ 3584) (next : ∀ S' σ', CI S' σ' → MI S' σ' → K18 0 58 (nI i + 7) (hp S')) : sm_L_law_382 K18 len xs Q 0 58 (nI i) (hp S) := by
  unfold sm_L_law_382
  have r1 : ∀ K : Int32 → Prop, sx_I len xs (nI i + 1) K = K (xs (i + 1)) := fun K => by rw [show nI i + (1 : Int32) = nI (i + 1) from nI_add i 1]; exact sx_r (by omega) hl
  rw [r1, c_v]
  obtain ⟨a, σ', hc, hm⟩ := op_count hC.wf (xs (i + 1))
  refine hc S _ hC (fun S1 f1 c1 => ?_)
  rw [sr_Ii, r1, m_v]
  refine hm S1 _ (hM.kept f1) (fun S2 f2 m2 => ?_)
  rw [sr_Ii, if_pos rfl]
  exact next S2 σ' (c1.kept f2) m2
theorem lw_405 {K18 : Nat → Nat → Int32 → aw_H → Prop} {len : Nat} {xs : Nat → Int32} {Q : aw_R} {i : Nat} {S : st_S} {σ : sg} (hC : CI S σ) (hM : MI S σ) (hi : i + 7 ≤ len) (hl : len ≤ 3584) (next : ∀ S' σ', CI S' σ' → MI S' σ' → K18 0 58 (nI i + 7) (hp S')) : sm_L_law_405 K18 len xs Q 0 58 (nI i) (hp S) := by
  unfold sm_L_law_405
  have r1 : ∀ K : Int32 → Prop, sx_I len xs (nI i + 1) K = K (xs (i + 1)) := fun K => by rw [show nI i + (1 : Int32) = nI (i + 1) from nI_add i 1]; exact sx_r (by omega) hl
  rw [r1, c_v]
  obtain ⟨a, σ', hc, hm⟩ := op_step hC.wf (xs (i + 1))
  refine hc S _ hC (fun S1 f1 c1 => ?_)
  rw [sr_Ii, r1, m_v]
  refine hm S1 _ (hM.kept f1) (fun S2 f2 m2 => ?_)
  rw [sr_Ii, if_pos rfl]
  exact next S2 σ' (c1.kept f2) m2
theorem lw_428 {K18 : Nat → Nat → Int32 → aw_H → Prop} {len : Nat} {xs : Nat → Int32} {Q : aw_R} {i : Nat} {S : st_S} {σ : sg} (hC : CI S σ) (hM : MI S σ) (hi : i + 7 ≤ len) (hl : len ≤ 3584) (next : ∀ S' σ', CI S' σ' → MI S' σ' → K18 0 58 (nI i + 7) (hp S')) : sm_L_law_428 K18 len xs Q 0 58 (nI i) (hp S) := by
  unfold sm_L_law_428
  have r1 : ∀ K : Int32 → Prop, sx_I len xs (nI i + 1) K = K (xs (i + 1)) := fun K => by rw [show nI i + (1 : Int32) = nI (i + 1) from nI_add i 1]; exact sx_r (by omega) hl
  rw [r1, c_v]
  obtain ⟨a, σ', hc, hm⟩ := op_back hC.wf (xs (i + 1))
  refine hc S _ hC (fun S1 f1 c1 => ?_)
  rw [sr_Ii, r1, m_v]
  refine hm S1 _ (hM.kept f1) (fun S2 f2 m2 => ?_)
  rw [sr_Ii, if_pos rfl]
  exact next S2 σ' (c1.kept f2) m2
theorem lw_451 {K18 : Nat → Nat → Int32 → aw_H → Prop} {len : Nat} {xs : Nat → Int32} {Q : aw_R} {i : Nat} {S : st_S} {σ : sg} (hC : CI S σ) (hM : MI S σ) (hi : i + 7 ≤ len) (hl : len ≤ 3584) (next : ∀ S' σ', CI S' σ' → MI S' σ' → K18 0 58 (nI i + 7) (hp S')) : sm_L_law_451 K18 len xs Q 0 58 (nI i) (hp S) := by
  unfold sm_L_law_451
  rw [c_v]
  obtain ⟨a, σ', hc, hm⟩ := op_home hC.wf 
  refine hc S _ hC (fun S1 f1 c1 => ?_)
  rw [sr_Ii, m_v]
  refine hm S1 _ (hM.kept f1) (fun S2 f2 m2 => ?_)
  rw [sr_Ii, if_pos rfl]
  exact next S2 σ' (c1.kept f2) m2
theorem lw_464 {K18 : Nat → Nat → Int32 → aw_H → Prop} {len : Nat} {xs : Nat → Int32} {Q : aw_R} {i : Nat} {S : st_S} {σ : sg} (hC : CI S σ) (hM : MI S σ) (hi : i + 7 ≤ len) (hl : len ≤ 3584) (next : ∀ S' σ', CI S' σ' → MI S' σ' → K18 0 58 (nI i + 7) (hp S')) : sm_L_law_464 K18 len xs Q 0 58 (nI i) (hp S) := by
  unfold sm_L_law_464
  have r1 : ∀ K : Int32 → Prop, sx_I len xs (nI i + 1) K = K (xs (i + 1)) := fun K => by rw [show nI i + (1 : Int32) = nI (i + 1) from nI_add i 1]; exact sx_r (by omega) hl
  rw [r1, c_v]
  obtain ⟨a, σ', hc, hm⟩ := op_flip hC.wf (xs (i + 1))
  refine hc S _ hC (fun S1 f1 c1 => ?_)
  rw [sr_Ii, r1, m_v]
  refine hm S1 _ (hM.kept f1) (fun S2 f2 m2 => ?_)
  rw [sr_Ii, if_pos rfl]
  exact next S2 σ' (c1.kept f2) m2
theorem lw_487 {K18 : Nat → Nat → Int32 → aw_H → Prop} {len : Nat} {xs : Nat → Int32} {Q : aw_R} {i : Nat} {S : st_S} {σ : sg} (hC : CI S σ) (hM : MI S σ) (hi : i + 7 ≤ len) (hl : len ≤ 3584) (next : ∀ S' σ', CI S' σ' → MI S' σ' → K18 0 58 (nI i + 7) (hp S')) : sm_L_law_487 K18 len xs Q 0 58 (nI i) (hp S) := by
  unfold sm_L_law_487
  have r1 : ∀ K : Int32 → Prop, sx_I len xs (nI i + 1) K = K (xs (i + 1)) := fun K => by rw [show nI i + (1 : Int32) = nI (i + 1) from nI_add i 1]; exact sx_r (by omega) hl
  rw [r1, c_v]
  obtain ⟨a, σ', hc, hm⟩ := op_kill hC.wf (xs (i + 1))
  refine hc S _ hC (fun S1 f1 c1 => ?_)
  rw [sr_Ii, r1, m_v]
  refine hm S1 _ (hM.kept f1) (fun S2 f2 m2 => ?_)
  rw [sr_Ii, if_pos rfl]
  exact next S2 σ' (c1.kept f2) m2
theorem lw_510 {K18 : Nat → Nat → Int32 → aw_H → Prop} {len : Nat} {xs : Nat → Int32} {Q : aw_R} {i : Nat} {S : st_S} {σ : sg} (hC : CI S σ) (hM : MI S σ) (hi : i + 7 ≤ len) (hl : len ≤ 3584) (next : ∀ S' σ', CI S' σ' → MI S' σ' → K18 0 58 (nI i + 7) (hp S')) : sm_L_law_510 K18 len xs Q 0 58 (nI i) (hp S) := by
  unfold sm_L_law_510
  have r1 : ∀ K : Int32 → Prop, sx_I len xs (nI i + 1) K = K (xs (i + 1)) := fun K => by rw [show nI i + (1 : Int32) = nI (i + 1) from nI_add i 1]; exact sx_r (by omega) hl
  rw [r1, c_v]
  obtain ⟨a, σ', hc, hm⟩ := op_heal hC.wf (xs (i + 1))
  refine hc S _ hC (fun S1 f1 c1 => ?_)
  rw [sr_Ii, r1, m_v]
  refine hm S1 _ (hM.kept f1) (fun S2 f2 m2 => ?_)
  rw [sr_Ii, if_pos rfl]
  exact next S2 σ' (c1.kept f2) m2
theorem lw_533 {K18 : Nat → Nat → Int32 → aw_H → Prop} {len : Nat} {xs : Nat → Int32} {Q : aw_R} {i : Nat} {S : st_S} {σ : sg} (hC : CI S σ) (hM : MI S σ) (hi : i + 7 ≤ len) (hl : len ≤ 3584) (next : ∀ S' σ', CI S' σ' → MI S' σ' → K18 0 58 (nI i + 7) (hp S')) : sm_L_law_533 K18 len xs Q 0 58 (nI i) (hp S) := by
  unfold sm_L_law_533
  have r1 : ∀ K : Int32 → Prop, sx_I len xs (nI i + 1) K = K (xs (i + 1)) := fun K => by rw [show nI i + (1 : Int32) = nI (i + 1) from nI_add i 1]; exact sx_r (by omega) hl
  have r2 : ∀ K : Int32 → Prop, sx_I len xs (nI i + 2) K = K (xs (i + 2)) := fun K => by rw [show nI i + (2 : Int32) = nI (i + 2) from nI_add i 2]; exact sx_r (by omega) hl
  rw [r1, r2, c_v]
  obtain ⟨a, σ', hc, hm⟩ := op_move hC.wf (xs (i + 1)) (xs (i + 2))
  refine hc S _ hC (fun S1 f1 c1 => ?_)
  rw [sr_Ii, r1, r2, m_v]
  refine hm S1 _ (hM.kept f1) (fun S2 f2 m2 => ?_)
  rw [sr_Ii, if_pos rfl]
  exact next S2 σ' (c1.kept f2) m2
theorem lw_566 {K18 : Nat → Nat → Int32 → aw_H → Prop} {len : Nat} {xs : Nat → Int32} {Q : aw_R} {i : Nat} {S : st_S} {σ : sg} (hC : CI S σ) (hM : MI S σ) (hi : i + 7 ≤ len) (hl : len ≤ 3584) (next : ∀ S' σ', CI S' σ' → MI S' σ' → K18 0 58 (nI i + 7) (hp S')) : sm_L_law_566 K18 len xs Q 0 58 (nI i) (hp S) := by
  unfold sm_L_law_566
  have r1 : ∀ K : Int32 → Prop, sx_I len xs (nI i + 1) K = K (xs (i + 1)) := fun K => by rw [show nI i + (1 : Int32) = nI (i + 1) from nI_add i 1]; exact sx_r (by omega) hl
  rw [r1, c_v]
  obtain ⟨a, σ', hc, hm⟩ := op_drift hC.wf (xs (i + 1))
  refine hc S _ hC (fun S1 f1 c1 => ?_)
  rw [sr_Ii, r1, m_v]
  refine hm S1 _ (hM.kept f1) (fun S2 f2 m2 => ?_)
  rw [sr_Ii, if_pos rfl]
  exact next S2 σ' (c1.kept f2) m2
theorem lw_589 {K18 : Nat → Nat → Int32 → aw_H → Prop} {len : Nat} {xs : Nat → Int32} {Q : aw_R} {i : Nat} {S : st_S} {σ : sg} (hC : CI S σ) (hM : MI S σ) (hi : i + 7 ≤ len) (hl : len ≤ 3584) (next : ∀ S' σ', CI S' σ' → MI S' σ' → K18 0 58 (nI i + 7) (hp S')) : sm_L_law_589 K18 len xs Q 0 58 (nI i) (hp S) := by
  unfold sm_L_law_589
  rw [c_v]
  obtain ⟨a, σ', hc, hm⟩ := op_undo hC.wf 
  refine hc S _ hC (fun S1 f1 c1 => ?_)
  rw [sr_Ii, m_v]
  refine hm S1 _ (hM.kept f1) (fun S2 f2 m2 => ?_)
  rw [sr_Ii, if_pos rfl]
  exact next S2 σ' (c1.kept f2) m2
theorem lw_602 {K18 : Nat → Nat → Int32 → aw_H → Prop} {len : Nat} {xs : Nat → Int32} {Q : aw_R} {i : Nat} {S : st_S} {σ : sg} (hC : CI S σ) (hM : MI S σ) (hi : i + 7 ≤ len) (hl : len ≤ 3584) (next : ∀ S' σ', CI S' σ' → MI S' σ' → K18 0 58 (nI i + 7) (hp S')) : sm_L_law_602 K18 len xs Q 0 58 (nI i) (hp S) := by
  unfold sm_L_law_602
  have r1 : ∀ K : Int32 → Prop, sx_I len xs (nI i + 1) K = K (xs (i + 1)) := fun K => by rw [show nI i + (1 : Int32) = nI (i + 1) from nI_add i 1]; exact sx_r (by omega) hl
  rw [r1, c_v]
  obtain ⟨a, σ', hc, hm⟩ := op_seed hC.wf (xs (i + 1))
  refine hc S _ hC (fun S1 f1 c1 => ?_)
  rw [sr_Ii, r1, m_v]
  refine hm S1 _ (hM.kept f1) (fun S2 f2 m2 => ?_)
  rw [sr_Ii, if_pos rfl]
  exact next S2 σ' (c1.kept f2) m2
theorem lw_625 {K18 : Nat → Nat → Int32 → aw_H → Prop} {len : Nat} {xs : Nat → Int32} {Q : aw_R} {i : Nat} {S : st_S} {σ : sg} (hC : CI S σ) (hM : MI S σ) (hi : i + 7 ≤ len) (hl : len ≤ 3584) (next : ∀ S' σ', CI S' σ' → MI S' σ' → K18 0 58 (nI i + 7) (hp S')) : sm_L_law_625 K18 len xs Q 0 58 (nI i) (hp S) := by
  unfold sm_L_law_625
  have r1 : ∀ K : Int32 → Prop, sx_I len xs (nI i + 1) K = K (xs (i + 1)) := fun K => by rw [show nI i + (1 : Int32) = nI (i + 1) from nI_add i 1]; exact sx_r (by omega) hl
  have r2 : ∀ K : Int32 → Prop, sx_I len xs (nI i + 2) K = K (xs (i + 2)) := fun K => by rw [show nI i + (2 : Int32) = nI (i + 2) from nI_add i 2]; exact sx_r (by omega) hl
  rw [r1, r2, c_v]
  obtain ⟨a, σ', hc, hm⟩ := op_goes hC.wf (xs (i + 1)) (xs (i + 2))
  refine hc S _ hC (fun S1 f1 c1 => ?_)
  rw [sr_Ii, r1, r2, m_v]
  refine hm S1 _ (hM.kept f1) (fun S2 f2 m2 => ?_)
  rw [sr_Ii, if_pos rfl]
  exact next S2 σ' (c1.kept f2) m2
theorem lw_658 {K18 : Nat → Nat → Int32 → aw_H → Prop} {len : Nat} {xs : Nat → Int32} {Q : aw_R} {i : Nat} {S : st_S} {σ : sg} (hC : CI S σ) (hM : MI S σ) (hi : i + 7 ≤ len) (hl : len ≤ 3584) (next : ∀ S' σ', CI S' σ' → MI S' σ' → K18 0 58 (nI i + 7) (hp S')) : sm_L_law_658 K18 len xs Q 0 58 (nI i) (hp S) := by
  unfold sm_L_law_658
  have r1 : ∀ K : Int32 → Prop, sx_I len xs (nI i + 1) K = K (xs (i + 1)) := fun K => by rw [show nI i + (1 : Int32) = nI (i + 1) from nI_add i 1]; exact sx_r (by omega) hl
  have r2 : ∀ K : Int32 → Prop, sx_I len xs (nI i + 2) K = K (xs (i + 2)) := fun K => by rw [show nI i + (2 : Int32) = nI (i + 2) from nI_add i 2]; exact sx_r (by omega) hl
  rw [r1, r2, c_v]
  obtain ⟨a, σ', hc, hm⟩ := op_far hC.wf (xs (i + 1)) (xs (i + 2))
  refine hc S _ hC (fun S1 f1 c1 => ?_)
  rw [sr_Ii, r1, r2, m_v]
  refine hm S1 _ (hM.kept f1) (fun S2 f2 m2 => ?_)
  rw [sr_Ii, if_pos rfl]
  exact next S2 σ' (c1.kept f2) m2
theorem lw_691 {K18 : Nat → Nat → Int32 → aw_H → Prop} {len : Nat} {xs : Nat → Int32} {Q : aw_R} {i : Nat} {S : st_S} {σ : sg} (hC : CI S σ) (hM : MI S σ) (hi : i + 7 ≤ len) (hl : len ≤ 3584) (next : ∀ S' σ', CI S' σ' → MI S' σ' → K18 0 58 (nI i + 7) (hp S')) : sm_L_law_691 K18 len xs Q 0 58 (nI i) (hp S) := by
  unfold sm_L_law_691
  have r1 : ∀ K : Int32 → Prop, sx_I len xs (nI i + 1) K = K (xs (i + 1)) := fun K => by rw [show nI i + (1 : Int32) = nI (i + 1) from nI_add i 1]; exact sx_r (by omega) hl
  rw [r1, c_v]
  obtain ⟨a, σ', hc, hm⟩ := op_ring hC.wf (xs (i + 1))
  refine hc S _ hC (fun S1 f1 c1 => ?_)
  rw [sr_Ii, r1, m_v]
  refine hm S1 _ (hM.kept f1) (fun S2 f2 m2 => ?_)
  rw [sr_Ii, if_pos rfl]
  exact next S2 σ' (c1.kept f2) m2
theorem lw_714 {K18 : Nat → Nat → Int32 → aw_H → Prop} {len : Nat} {xs : Nat → Int32} {Q : aw_R} {i : Nat} {S : st_S} {σ : sg} (hC : CI S σ) (hM : MI S σ) (hi : i + 7 ≤ len) (hl : len ≤ 3584) (next : ∀ S' σ', CI S' σ' → MI S' σ' → K18 0 58 (nI i + 7) (hp S')) : sm_L_law_714 K18 len xs Q 0 58 (nI i) (hp S) := by
  unfold sm_L_law_714
  have r1 : ∀ K : Int32 → Prop, sx_I len xs (nI i + 1) K = K (xs (i + 1)) := fun K => by rw [show nI i + (1 : Int32) = nI (i + 1) from nI_add i 1]; exact sx_r (by omega) hl
  rw [r1, c_v]
  obtain ⟨a, σ', hc, hm⟩ := op_rings hC.wf (xs (i + 1))
  refine hc S _ hC (fun S1 f1 c1 => ?_)
  rw [sr_Ii, r1, m_v]
  refine hm S1 _ (hM.kept f1) (fun S2 f2 m2 => ?_)
  rw [sr_Ii, if_pos rfl]
  exact next S2 σ' (c1.kept f2) m2
theorem lw_737 {K18 : Nat → Nat → Int32 → aw_H → Prop} {len : Nat} {xs : Nat → Int32} {Q : aw_R} {i : Nat} {S : st_S} {σ : sg} (hC : CI S σ) (hM : MI S σ) (hi : i + 7 ≤ len) (hl : len ≤ 3584) (next : ∀ S' σ', CI S' σ' → MI S' σ' → K18 0 58 (nI i + 7) (hp S')) : sm_L_law_737 K18 len xs Q 0 58 (nI i) (hp S) := by
  unfold sm_L_law_737
  rw [c_v]
  obtain ⟨a, σ', hc, hm⟩ := op_order hC.wf 
  refine hc S _ hC (fun S1 f1 c1 => ?_)
  rw [sr_Ii, m_v]
  refine hm S1 _ (hM.kept f1) (fun S2 f2 m2 => ?_)
  rw [sr_Ii, if_pos rfl]
  exact next S2 σ' (c1.kept f2) m2
theorem lw_750 {K18 : Nat → Nat → Int32 → aw_H → Prop} {len : Nat} {xs : Nat → Int32} {Q : aw_R} {i : Nat} {S : st_S} {σ : sg} (hC : CI S σ) (hM : MI S σ) (hi : i + 7 ≤ len) (hl : len ≤ 3584) (next : ∀ S' σ', CI S' σ' → MI S' σ' → K18 0 58 (nI i + 7) (hp S')) : sm_L_law_750 K18 len xs Q 0 58 (nI i) (hp S) := by
  unfold sm_L_law_750
  rw [c_v]
  obtain ⟨a, σ', hc, hm⟩ := op_odd hC.wf 
  refine hc S _ hC (fun S1 f1 c1 => ?_)
  rw [sr_Ii, m_v]
  refine hm S1 _ (hM.kept f1) (fun S2 f2 m2 => ?_)
  rw [sr_Ii, if_pos rfl]
  exact next S2 σ' (c1.kept f2) m2
theorem lw_763 {K18 : Nat → Nat → Int32 → aw_H → Prop} {len : Nat} {xs : Nat → Int32} {Q : aw_R} {i : Nat} {S : st_S} {σ : sg} (hC : CI S σ) (hM : MI S σ) (hi : i + 7 ≤ len) (hl : len ≤ 3584) (next : ∀ S' σ', CI S' σ' → MI S' σ' → K18 0 58 (nI i + 7) (hp S')) : sm_L_law_763 K18 len xs Q 0 58 (nI i) (hp S) := by
  unfold sm_L_law_763
  have r1 : ∀ K : Int32 → Prop, sx_I len xs (nI i + 1) K = K (xs (i + 1)) := fun K => by rw [show nI i + (1 : Int32) = nI (i + 1) from nI_add i 1]; exact sx_r (by omega) hl
  have r2 : ∀ K : Int32 → Prop, sx_I len xs (nI i + 2) K = K (xs (i + 2)) := fun K => by rw [show nI i + (2 : Int32) = nI (i + 2) from nI_add i 2]; exact sx_r (by omega) hl
  rw [r1, r2, c_v]
  obtain ⟨a, σ', hc, hm⟩ := op_alike hC.wf (xs (i + 1)) (xs (i + 2))
  refine hc S _ hC (fun S1 f1 c1 => ?_)
  rw [sr_Ii, r1, r2, m_v]
  refine hm S1 _ (hM.kept f1) (fun S2 f2 m2 => ?_)
  rw [sr_Ii, if_pos rfl]
  exact next S2 σ' (c1.kept f2) m2
theorem lw_796 {K18 : Nat → Nat → Int32 → aw_H → Prop} {len : Nat} {xs : Nat → Int32} {Q : aw_R} {i : Nat} {S : st_S} {σ : sg} (hC : CI S σ) (hM : MI S σ) (hi : i + 7 ≤ len) (hl : len ≤ 3584) (next : ∀ S' σ', CI S' σ' → MI S' σ' → K18 0 58 (nI i + 7) (hp S')) : sm_L_law_796 K18 len xs Q 0 58 (nI i) (hp S) := by
  unfold sm_L_law_796
  rw [c_v]
  obtain ⟨a, σ', hc, hm⟩ := op_pair hC.wf 
  refine hc S _ hC (fun S1 f1 c1 => ?_)
  rw [sr_Ii, m_v]
  refine hm S1 _ (hM.kept f1) (fun S2 f2 m2 => ?_)
  rw [sr_Ii, if_pos rfl]
  exact next S2 σ' (c1.kept f2) m2
theorem lw_809 {K18 : Nat → Nat → Int32 → aw_H → Prop} {len : Nat} {xs : Nat → Int32} {Q : aw_R} {i : Nat} {S : st_S} {σ : sg} (hC : CI S σ) (hM : MI S σ) (hi : i + 7 ≤ len) (hl : len ≤ 3584) (next : ∀ S' σ', CI S' σ' → MI S' σ' → K18 0 58 (nI i + 7) (hp S')) : sm_L_law_809 K18 len xs Q 0 58 (nI i) (hp S) := by
  unfold sm_L_law_809
  have r1 : ∀ K : Int32 → Prop, sx_I len xs (nI i + 1) K = K (xs (i + 1)) := fun K => by rw [show nI i + (1 : Int32) = nI (i + 1) from nI_add i 1]; exact sx_r (by omega) hl
  have r2 : ∀ K : Int32 → Prop, sx_I len xs (nI i + 2) K = K (xs (i + 2)) := fun K => by rw [show nI i + (2 : Int32) = nI (i + 2) from nI_add i 2]; exact sx_r (by omega) hl
  rw [r1, r2, c_v]
  obtain ⟨a, σ', hc, hm⟩ := op_hangs hC.wf (xs (i + 1)) (xs (i + 2))
  refine hc S _ hC (fun S1 f1 c1 => ?_)
  rw [sr_Ii, r1, r2, m_v]
  refine hm S1 _ (hM.kept f1) (fun S2 f2 m2 => ?_)
  rw [sr_Ii, if_pos rfl]
  exact next S2 σ' (c1.kept f2) m2
theorem lw_842 {K18 : Nat → Nat → Int32 → aw_H → Prop} {len : Nat} {xs : Nat → Int32} {Q : aw_R} {i : Nat} {S : st_S} {σ : sg} (hC : CI S σ) (hM : MI S σ) (hi : i + 7 ≤ len) (hl : len ≤ 3584) (next : ∀ S' σ', CI S' σ' → MI S' σ' → K18 0 58 (nI i + 7) (hp S')) : sm_L_law_842 K18 len xs Q 0 58 (nI i) (hp S) := by
  unfold sm_L_law_842
  have r1 : ∀ K : Int32 → Prop, sx_I len xs (nI i + 1) K = K (xs (i + 1)) := fun K => by rw [show nI i + (1 : Int32) = nI (i + 1) from nI_add i 1]; exact sx_r (by omega) hl
  have r2 : ∀ K : Int32 → Prop, sx_I len xs (nI i + 2) K = K (xs (i + 2)) := fun K => by rw [show nI i + (2 : Int32) = nI (i + 2) from nI_add i 2]; exact sx_r (by omega) hl
  have r3 : ∀ K : Int32 → Prop, sx_I len xs (nI i + 3) K = K (xs (i + 3)) := fun K => by rw [show nI i + (3 : Int32) = nI (i + 3) from nI_add i 3]; exact sx_r (by omega) hl
  rw [r1, r2, r3, c_v]
  obtain ⟨a, σ', hc, hm⟩ := op_way hC.wf (xs (i + 1)) (xs (i + 2)) (xs (i + 3))
  refine hc S _ hC (fun S1 f1 c1 => ?_)
  rw [sr_Ii, r1, r2, r3, m_v]
  refine hm S1 _ (hM.kept f1) (fun S2 f2 m2 => ?_)
  rw [sr_Ii, if_pos rfl]
  exact next S2 σ' (c1.kept f2) m2
theorem lw_885 {K18 : Nat → Nat → Int32 → aw_H → Prop} {len : Nat} {xs : Nat → Int32} {Q : aw_R} {i : Nat} {S : st_S} {σ : sg} (hC : CI S σ) (hM : MI S σ) (hi : i + 7 ≤ len) (hl : len ≤ 3584) (next : ∀ S' σ', CI S' σ' → MI S' σ' → K18 0 58 (nI i + 7) (hp S')) : sm_L_law_885 K18 len xs Q 0 58 (nI i) (hp S) := by
  unfold sm_L_law_885
  have r1 : ∀ K : Int32 → Prop, sx_I len xs (nI i + 1) K = K (xs (i + 1)) := fun K => by rw [show nI i + (1 : Int32) = nI (i + 1) from nI_add i 1]; exact sx_r (by omega) hl
  rw [r1, c_v]
  obtain ⟨a, σ', hc, hm⟩ := op_reach hC.wf (xs (i + 1))
  refine hc S _ hC (fun S1 f1 c1 => ?_)
  rw [sr_Ii, r1, m_v]
  refine hm S1 _ (hM.kept f1) (fun S2 f2 m2 => ?_)
  rw [sr_Ii, if_pos rfl]
  exact next S2 σ' (c1.kept f2) m2
theorem lw_908 {K18 : Nat → Nat → Int32 → aw_H → Prop} {len : Nat} {xs : Nat → Int32} {Q : aw_R} {i : Nat} {S : st_S} {σ : sg} (hC : CI S σ) (hM : MI S σ) (hi : i + 7 ≤ len) (hl : len ≤ 3584) (next : ∀ S' σ', CI S' σ' → MI S' σ' → K18 0 58 (nI i + 7) (hp S')) : sm_L_law_908 K18 len xs Q 0 58 (nI i) (hp S) := by
  unfold sm_L_law_908
  have r1 : ∀ K : Int32 → Prop, sx_I len xs (nI i + 1) K = K (xs (i + 1)) := fun K => by rw [show nI i + (1 : Int32) = nI (i + 1) from nI_add i 1]; exact sx_r (by omega) hl
  rw [r1, c_v]
  obtain ⟨a, σ', hc, hm⟩ := op_shows hC.wf (xs (i + 1))
  refine hc S _ hC (fun S1 f1 c1 => ?_)
  rw [sr_Ii, r1, m_v]
  refine hm S1 _ (hM.kept f1) (fun S2 f2 m2 => ?_)
  rw [sr_Ii, if_pos rfl]
  exact next S2 σ' (c1.kept f2) m2
theorem lw_931 {K18 : Nat → Nat → Int32 → aw_H → Prop} {len : Nat} {xs : Nat → Int32} {Q : aw_R} {i : Nat} {S : st_S} {σ : sg} (hC : CI S σ) (hM : MI S σ) (hi : i + 7 ≤ len) (hl : len ≤ 3584) (next : ∀ S' σ', CI S' σ' → MI S' σ' → K18 0 58 (nI i + 7) (hp S')) : sm_L_law_931 K18 len xs Q 0 58 (nI i) (hp S) := by
  unfold sm_L_law_931
  have r1 : ∀ K : Int32 → Prop, sx_I len xs (nI i + 1) K = K (xs (i + 1)) := fun K => by rw [show nI i + (1 : Int32) = nI (i + 1) from nI_add i 1]; exact sx_r (by omega) hl
  rw [r1, c_v]
  obtain ⟨a, σ', hc, hm⟩ := op_telling hC.wf (xs (i + 1))
  refine hc S _ hC (fun S1 f1 c1 => ?_)
  rw [sr_Ii, r1, m_v]
  refine hm S1 _ (hM.kept f1) (fun S2 f2 m2 => ?_)
  rw [sr_Ii, if_pos rfl]
  exact next S2 σ' (c1.kept f2) m2
theorem lw_954 {K18 : Nat → Nat → Int32 → aw_H → Prop} {len : Nat} {xs : Nat → Int32} {Q : aw_R} {i : Nat} {S : st_S} {σ : sg} (hC : CI S σ) (hM : MI S σ) (hi : i + 7 ≤ len) (hl : len ≤ 3584) (next : ∀ S' σ', CI S' σ' → MI S' σ' → K18 0 58 (nI i + 7) (hp S')) : sm_L_law_954 K18 len xs Q 0 58 (nI i) (hp S) := by
  unfold sm_L_law_954
  have r1 : ∀ K : Int32 → Prop, sx_I len xs (nI i + 1) K = K (xs (i + 1)) := fun K => by rw [show nI i + (1 : Int32) = nI (i + 1) from nI_add i 1]; exact sx_r (by omega) hl
  have r2 : ∀ K : Int32 → Prop, sx_I len xs (nI i + 2) K = K (xs (i + 2)) := fun K => by rw [show nI i + (2 : Int32) = nI (i + 2) from nI_add i 2]; exact sx_r (by omega) hl
  have r3 : ∀ K : Int32 → Prop, sx_I len xs (nI i + 3) K = K (xs (i + 3)) := fun K => by rw [show nI i + (3 : Int32) = nI (i + 3) from nI_add i 3]; exact sx_r (by omega) hl
  rw [r1, r2, r3, c_v]
  obtain ⟨a, σ', hc, hm⟩ := op_likely hC.wf (xs (i + 1)) (xs (i + 2)) (xs (i + 3))
  refine hc S _ hC (fun S1 f1 c1 => ?_)
  rw [sr_Ii, r1, r2, r3, m_v]
  refine hm S1 _ (hM.kept f1) (fun S2 f2 m2 => ?_)
  rw [sr_Ii, if_pos rfl]
  exact next S2 σ' (c1.kept f2) m2
theorem lw_997 {K18 : Nat → Nat → Int32 → aw_H → Prop} {len : Nat} {xs : Nat → Int32} {Q : aw_R} {i : Nat} {S : st_S} {σ : sg} (hC : CI S σ) (hM : MI S σ) (hi : i + 7 ≤ len) (hl : len ≤ 3584) (next : ∀ S' σ', CI S' σ' → MI S' σ' → K18 0 58 (nI i + 7) (hp S')) : sm_L_law_997 K18 len xs Q 0 58 (nI i) (hp S) := by
  unfold sm_L_law_997
  rw [c_v]
  obtain ⟨a, σ', hc, hm⟩ := op_image hC.wf 
  refine hc S _ hC (fun S1 f1 c1 => ?_)
  rw [sr_Ii, m_v]
  refine hm S1 _ (hM.kept f1) (fun S2 f2 m2 => ?_)
  rw [sr_Ii, if_pos rfl]
  exact next S2 σ' (c1.kept f2) m2
theorem lw_1010 {K18 : Nat → Nat → Int32 → aw_H → Prop} {len : Nat} {xs : Nat → Int32} {Q : aw_R} {i : Nat} {S : st_S} {σ : sg} (hC : CI S σ) (hM : MI S σ) (hi : i + 7 ≤ len) (hl : len ≤ 3584) (next : ∀ S' σ', CI S' σ' → MI S' σ' → K18 0 58 (nI i + 7) (hp S')) : sm_L_law_1010 K18 len xs Q 0 58 (nI i) (hp S) := by
  unfold sm_L_law_1010
  rw [c_v]
  obtain ⟨a, σ', hc, hm⟩ := op_restore hC.wf 
  refine hc S _ hC (fun S1 f1 c1 => ?_)
  rw [sr_Ii, m_v]
  refine hm S1 _ (hM.kept f1) (fun S2 f2 m2 => ?_)
  rw [sr_Ii, if_pos rfl]
  exact next S2 σ' (c1.kept f2) m2
theorem lw_1023 {K18 : Nat → Nat → Int32 → aw_H → Prop} {len : Nat} {xs : Nat → Int32} {Q : aw_R} {i : Nat} {S : st_S} {σ : sg} (hC : CI S σ) (hM : MI S σ) (hi : i + 7 ≤ len) (hl : len ≤ 3584) (next : ∀ S' σ', CI S' σ' → MI S' σ' → K18 0 58 (nI i + 7) (hp S')) : sm_L_law_1023 K18 len xs Q 0 58 (nI i) (hp S) := by
  unfold sm_L_law_1023
  have r1 : ∀ K : Int32 → Prop, sx_I len xs (nI i + 1) K = K (xs (i + 1)) := fun K => by rw [show nI i + (1 : Int32) = nI (i + 1) from nI_add i 1]; exact sx_r (by omega) hl
  have r2 : ∀ K : Int32 → Prop, sx_I len xs (nI i + 2) K = K (xs (i + 2)) := fun K => by rw [show nI i + (2 : Int32) = nI (i + 2) from nI_add i 2]; exact sx_r (by omega) hl
  have r3 : ∀ K : Int32 → Prop, sx_I len xs (nI i + 3) K = K (xs (i + 3)) := fun K => by rw [show nI i + (3 : Int32) = nI (i + 3) from nI_add i 3]; exact sx_r (by omega) hl
  have r4 : ∀ K : Int32 → Prop, sx_I len xs (nI i + 4) K = K (xs (i + 4)) := fun K => by rw [show nI i + (4 : Int32) = nI (i + 4) from nI_add i 4]; exact sx_r (by omega) hl
  have r5 : ∀ K : Int32 → Prop, sx_I len xs (nI i + 5) K = K (xs (i + 5)) := fun K => by rw [show nI i + (5 : Int32) = nI (i + 5) from nI_add i 5]; exact sx_r (by omega) hl
  have r6 : ∀ K : Int32 → Prop, sx_I len xs (nI i + 6) K = K (xs (i + 6)) := fun K => by rw [show nI i + (6 : Int32) = nI (i + 6) from nI_add i 6]; exact sx_r (by omega) hl
  rw [r1, r2, r3, r4, r5, r6, c_v]
  obtain ⟨a, σ', hc, hm⟩ := op_came hC.wf (xs (i + 1)) (xs (i + 2)) (xs (i + 3)) (xs (i + 4)) (xs (i + 5)) (xs (i + 6))
  refine hc S _ hC (fun S1 f1 c1 => ?_)
  rw [sr_Ii, r1, r2, r3, r4, r5, r6, m_v]
  refine hm S1 _ (hM.kept f1) (fun S2 f2 m2 => ?_)
  rw [sr_Ii, if_pos rfl]
  exact next S2 σ' (c1.kept f2) m2
theorem lw_1098 {K18 : Nat → Nat → Int32 → aw_H → Prop} {len : Nat} {xs : Nat → Int32} {Q : aw_R} {i : Nat} {S : st_S} {σ : sg} (hC : CI S σ) (hM : MI S σ) (hi : i + 7 ≤ len) (hl : len ≤ 3584) (next : ∀ S' σ', CI S' σ' → MI S' σ' → K18 0 58 (nI i + 7) (hp S')) : sm_L_law_1098 K18 len xs Q 0 58 (nI i) (hp S) := by
  unfold sm_L_law_1098
  have r1 : ∀ K : Int32 → Prop, sx_I len xs (nI i + 1) K = K (xs (i + 1)) := fun K => by rw [show nI i + (1 : Int32) = nI (i + 1) from nI_add i 1]; exact sx_r (by omega) hl
  have r2 : ∀ K : Int32 → Prop, sx_I len xs (nI i + 2) K = K (xs (i + 2)) := fun K => by rw [show nI i + (2 : Int32) = nI (i + 2) from nI_add i 2]; exact sx_r (by omega) hl
  have r3 : ∀ K : Int32 → Prop, sx_I len xs (nI i + 3) K = K (xs (i + 3)) := fun K => by rw [show nI i + (3 : Int32) = nI (i + 3) from nI_add i 3]; exact sx_r (by omega) hl
  have r4 : ∀ K : Int32 → Prop, sx_I len xs (nI i + 4) K = K (xs (i + 4)) := fun K => by rw [show nI i + (4 : Int32) = nI (i + 4) from nI_add i 4]; exact sx_r (by omega) hl
  have r5 : ∀ K : Int32 → Prop, sx_I len xs (nI i + 5) K = K (xs (i + 5)) := fun K => by rw [show nI i + (5 : Int32) = nI (i + 5) from nI_add i 5]; exact sx_r (by omega) hl
  rw [r1, r2, r3, r4, r5, c_v]
  obtain ⟨a, σ', hc, hm⟩ := op_film hC.wf (xs (i + 1)) (xs (i + 2)) (xs (i + 3)) (xs (i + 4)) (xs (i + 5))
  refine hc S _ hC (fun S1 f1 c1 => ?_)
  rw [sr_Ii, r1, r2, r3, r4, r5, m_v]
  refine hm S1 _ (hM.kept f1) (fun S2 f2 m2 => ?_)
  rw [sr_Ii, if_pos rfl]
  exact next S2 σ' (c1.kept f2) m2
theorem lw_1161 {K18 : Nat → Nat → Int32 → aw_H → Prop} {len : Nat} {xs : Nat → Int32} {Q : aw_R} {i : Nat} {S : st_S} {σ : sg} (hC : CI S σ) (hM : MI S σ) (hi : i + 7 ≤ len) (hl : len ≤ 3584) (next : ∀ S' σ', CI S' σ' → MI S' σ' → K18 0 58 (nI i + 7) (hp S')) : sm_L_law_1161 K18 len xs Q 0 58 (nI i) (hp S) := by
  unfold sm_L_law_1161
  have r1 : ∀ K : Int32 → Prop, sx_I len xs (nI i + 1) K = K (xs (i + 1)) := fun K => by rw [show nI i + (1 : Int32) = nI (i + 1) from nI_add i 1]; exact sx_r (by omega) hl
  have r2 : ∀ K : Int32 → Prop, sx_I len xs (nI i + 2) K = K (xs (i + 2)) := fun K => by rw [show nI i + (2 : Int32) = nI (i + 2) from nI_add i 2]; exact sx_r (by omega) hl
  have r3 : ∀ K : Int32 → Prop, sx_I len xs (nI i + 3) K = K (xs (i + 3)) := fun K => by rw [show nI i + (3 : Int32) = nI (i + 3) from nI_add i 3]; exact sx_r (by omega) hl
  rw [r1, r2, r3, c_v]
  obtain ⟨a, σ', hc, hm⟩ := op_sheet hC.wf (xs (i + 1)) (xs (i + 2)) (xs (i + 3))
  refine hc S _ hC (fun S1 f1 c1 => ?_)
  rw [sr_Ii, r1, r2, r3, m_v]
  refine hm S1 _ (hM.kept f1) (fun S2 f2 m2 => ?_)
  rw [sr_Ii, if_pos rfl]
  exact next S2 σ' (c1.kept f2) m2
theorem lw_1204 {K18 : Nat → Nat → Int32 → aw_H → Prop} {len : Nat} {xs : Nat → Int32} {Q : aw_R} {i : Nat} {S : st_S} {σ : sg} (hC : CI S σ) (hM : MI S σ) (hi : i + 7 ≤ len) (hl : len ≤ 3584) (next : ∀ S' σ', CI S' σ' → MI S' σ' → K18 0 58 (nI i + 7) (hp S')) : sm_L_law_1204 K18 len xs Q 0 58 (nI i) (hp S) := by
  unfold sm_L_law_1204
  have r1 : ∀ K : Int32 → Prop, sx_I len xs (nI i + 1) K = K (xs (i + 1)) := fun K => by rw [show nI i + (1 : Int32) = nI (i + 1) from nI_add i 1]; exact sx_r (by omega) hl
  rw [r1, c_v]
  obtain ⟨a, σ', hc, hm⟩ := op_drop hC.wf (xs (i + 1))
  refine hc S _ hC (fun S1 f1 c1 => ?_)
  rw [sr_Ii, r1, m_v]
  refine hm S1 _ (hM.kept f1) (fun S2 f2 m2 => ?_)
  rw [sr_Ii, if_pos rfl]
  exact next S2 σ' (c1.kept f2) m2
theorem lw_1227 {K18 : Nat → Nat → Int32 → aw_H → Prop} {len : Nat} {xs : Nat → Int32} {Q : aw_R} {i : Nat} {S : st_S} {σ : sg} (hC : CI S σ) (hM : MI S σ) (hi : i + 7 ≤ len) (hl : len ≤ 3584) (next : ∀ S' σ', CI S' σ' → MI S' σ' → K18 0 58 (nI i + 7) (hp S')) : sm_L_law_1227 K18 len xs Q 0 58 (nI i) (hp S) := by
  unfold sm_L_law_1227
  have r1 : ∀ K : Int32 → Prop, sx_I len xs (nI i + 1) K = K (xs (i + 1)) := fun K => by rw [show nI i + (1 : Int32) = nI (i + 1) from nI_add i 1]; exact sx_r (by omega) hl
  have r2 : ∀ K : Int32 → Prop, sx_I len xs (nI i + 2) K = K (xs (i + 2)) := fun K => by rw [show nI i + (2 : Int32) = nI (i + 2) from nI_add i 2]; exact sx_r (by omega) hl
  have r3 : ∀ K : Int32 → Prop, sx_I len xs (nI i + 3) K = K (xs (i + 3)) := fun K => by rw [show nI i + (3 : Int32) = nI (i + 3) from nI_add i 3]; exact sx_r (by omega) hl
  have r4 : ∀ K : Int32 → Prop, sx_I len xs (nI i + 4) K = K (xs (i + 4)) := fun K => by rw [show nI i + (4 : Int32) = nI (i + 4) from nI_add i 4]; exact sx_r (by omega) hl
  have r5 : ∀ K : Int32 → Prop, sx_I len xs (nI i + 5) K = K (xs (i + 5)) := fun K => by rw [show nI i + (5 : Int32) = nI (i + 5) from nI_add i 5]; exact sx_r (by omega) hl
  rw [r1, r2, r3, r4, r5, c_v]
  obtain ⟨a, σ', hc, hm⟩ := op_item hC.wf (xs (i + 1)) (xs (i + 2)) (xs (i + 3)) (((Int32.toInt64 (xs (i + 4))) <<< (Int32.toInt64 32 &&& 63)) ||| ((Int32.toInt64 (xs (i + 5))) &&& 4294967295))
  refine hc S _ hC (fun S1 f1 c1 => ?_)
  rw [sr_Ii, r1, r2, r3, r4, r5, m_v]
  refine hm S1 _ (hM.kept f1) (fun S2 f2 m2 => ?_)
  rw [sr_Ii, if_pos rfl]
  exact next S2 σ' (c1.kept f2) m2
theorem lw_1310 {K18 : Nat → Nat → Int32 → aw_H → Prop} {len : Nat} {xs : Nat → Int32} {Q : aw_R} {i : Nat} {S : st_S} {σ : sg} (hC : CI S σ) (hM : MI S σ) (hi : i + 7 ≤ len) (hl : len ≤ 3584) (next : ∀ S' σ', CI S' σ' → MI S' σ' → K18 0 58 (nI i + 7) (hp S')) : sm_L_law_1310 K18 len xs Q 0 58 (nI i) (hp S) := by
  unfold sm_L_law_1310
  have r1 : ∀ K : Int32 → Prop, sx_I len xs (nI i + 1) K = K (xs (i + 1)) := fun K => by rw [show nI i + (1 : Int32) = nI (i + 1) from nI_add i 1]; exact sx_r (by omega) hl
  have r2 : ∀ K : Int32 → Prop, sx_I len xs (nI i + 2) K = K (xs (i + 2)) := fun K => by rw [show nI i + (2 : Int32) = nI (i + 2) from nI_add i 2]; exact sx_r (by omega) hl
  have r3 : ∀ K : Int32 → Prop, sx_I len xs (nI i + 3) K = K (xs (i + 3)) := fun K => by rw [show nI i + (3 : Int32) = nI (i + 3) from nI_add i 3]; exact sx_r (by omega) hl
  have r4 : ∀ K : Int32 → Prop, sx_I len xs (nI i + 4) K = K (xs (i + 4)) := fun K => by rw [show nI i + (4 : Int32) = nI (i + 4) from nI_add i 4]; exact sx_r (by omega) hl
  have r5 : ∀ K : Int32 → Prop, sx_I len xs (nI i + 5) K = K (xs (i + 5)) := fun K => by rw [show nI i + (5 : Int32) = nI (i + 5) from nI_add i 5]; exact sx_r (by omega) hl
  rw [r1, r2, r3, r4, r5, c_v]
  obtain ⟨a, σ', hc, hm⟩ := op_copy hC.wf (xs (i + 1)) (xs (i + 2)) (xs (i + 3)) (xs (i + 4)) (xs (i + 5))
  refine hc S _ hC (fun S1 f1 c1 => ?_)
  rw [sr_Ii, r1, r2, r3, r4, r5, m_v]
  refine hm S1 _ (hM.kept f1) (fun S2 f2 m2 => ?_)
  rw [sr_Ii, if_pos rfl]
  exact next S2 σ' (c1.kept f2) m2
def σ_0 : sg := ((3, 0, 0, 0, 1, g00), [], none, (0, fun _ => 0), fun _ => none)
theorem CI_0 : CI S_0 σ_0 := by
  refine ⟨⟨⟨by decide, by decide, by decide, by decide, by decide, fun g hg => absurd hg (Nat.not_lt_zero g)⟩, rfl, rfl, rfl, rfl, rfl, fun g hg => absurd hg (Nat.not_lt_zero g)⟩, ⟨by decide, 0, by decide, rfl, rfl, fun j B hj => by cases hj⟩, rfl, ⟨by decide, rfl, fun j hj => absurd hj (Nat.not_lt_zero j)⟩, fun i hi => ?_⟩
  rcases (show i = 0 ∨ i = 1 ∨ i = 2 ∨ i = 3 by omega) with rfl | rfl | rfl | rfl <;> rfl
theorem MI_0 : MI S_0 σ_0 := by
  refine ⟨⟨rfl, rfl, rfl, rfl, rfl, fun g hg => absurd hg (Nat.not_lt_zero g)⟩, ⟨by decide, ?_, fun j B hj => by cases hj⟩, rfl, ⟨rfl, fun j hj => absurd hj (Nat.not_lt_zero j)⟩, fun i hi => ?_⟩
  · show upd (upd (fun _ => 0) 0 3) 4 1 765 = 0
    rw [pk_un (by omega), pk_un (by omega)]
  · rcases (show i = 0 ∨ i = 1 ∨ i = 2 ∨ i = 3 by omega) with rfl | rfl | rfl | rfl <;> rfl
theorem lw_more {len i : Nat} (hl : len ≤ 3584) (hi : i ≤ 4000) : (Int32.ofNat len - 7) < nI i ↔ len < i + 7 := by
  have e1 : (Int32.ofNat len).toInt = (len : Int) := nI_toInt (by omega)
  have e7 : (7 : Int32).toInt = 7 := rfl
  rw [fa_lt, fb_subI (by rw [e1, e7]; omega) (by rw [e1, e7]; omega), e1, e7, nI_toInt (by omega)]
  omega
theorem law_pure (len : Nat) (xs : Nat → Int32) (hl : len ≤ 3584) : law_ok len xs := by
  intro K18 Q hQ r18
  have main : ∀ m i S σ, len ≤ i + m → i ≤ 4000 → CI S σ → MI S σ → K18 0 58 (nI i) (hp S) := by
    intro m
    induction m with
    | zero =>
      intro i S σ hm hi hC hM
      apply r18
      unfold sm_L_law_18
      rw [sx_Ni]
      rw [if_pos ((lw_more hl hi).mpr (by omega))]
      exact hQ _
    | succ m ih =>
      intro i S σ hm hi hC hM
      apply r18
      unfold sm_L_law_18
      rw [sx_Ni]
      by_cases hend : len < i + 7
      · rw [if_pos ((lw_more hl hi).mpr hend)]
        exact hQ _
      · rw [if_neg (fun q => hend ((lw_more hl hi).mp q)), sx_r (by omega) hl]
        have hi7 : i + 7 ≤ len := by omega
        have next : ∀ S' σ', CI S' σ' → MI S' σ' → K18 0 58 (nI i + 7) (hp S') := fun S' σ' c' m' => by
          rw [show nI i + (7 : Int32) = nI (i + 7) from nI_add i 7]
          exact ih (i + 7) S' σ' (by omega) (by omega) c' m'
        generalize xs i &&& 63 = v
        by_cases h0 : v = 0
        · rw [if_pos h0]
          exact lw_204 hC hM hi7 hl next
        rw [if_neg h0]
        by_cases h1 : v = 1
        · rw [if_pos h1]
          exact lw_227 hC hM hi7 hl next
        rw [if_neg h1]
        by_cases h2 : v = 2
        · rw [if_pos h2]
          exact lw_280 hC hM hi7 hl next
        rw [if_neg h2]
        by_cases h3 : v = 3
        · rw [if_pos h3]
          exact lw_313 hC hM hi7 hl next
        rw [if_neg h3]
        by_cases h4 : v = 4
        · rw [if_pos h4]
          exact lw_346 hC hM hi7 hl next
        rw [if_neg h4]
        by_cases h5 : v = 5
        · rw [if_pos h5]
          exact lw_369 hC hM hi7 hl next
        rw [if_neg h5]
        by_cases h6 : v = 6
        · rw [if_pos h6]
          exact lw_382 hC hM hi7 hl next
        rw [if_neg h6]
        by_cases h7 : v = 7
        · rw [if_pos h7]
          exact lw_405 hC hM hi7 hl next
        rw [if_neg h7]
        by_cases h8 : v = 8
        · rw [if_pos h8]
          exact lw_428 hC hM hi7 hl next
        rw [if_neg h8]
        by_cases h9 : v = 9
        · rw [if_pos h9]
          exact lw_451 hC hM hi7 hl next
        rw [if_neg h9]
        by_cases h10 : v = 10
        · rw [if_pos h10]
          exact lw_464 hC hM hi7 hl next
        rw [if_neg h10]
        by_cases h11 : v = 11
        · rw [if_pos h11]
          exact lw_487 hC hM hi7 hl next
        rw [if_neg h11]
        by_cases h12 : v = 12
        · rw [if_pos h12]
          exact lw_510 hC hM hi7 hl next
        rw [if_neg h12]
        by_cases h13 : v = 13
        · rw [if_pos h13]
          exact lw_533 hC hM hi7 hl next
        rw [if_neg h13]
        by_cases h14 : v = 14
        · rw [if_pos h14]
          exact lw_566 hC hM hi7 hl next
        rw [if_neg h14]
        by_cases h15 : v = 15
        · rw [if_pos h15]
          exact lw_589 hC hM hi7 hl next
        rw [if_neg h15]
        by_cases h16 : v = 16
        · rw [if_pos h16]
          exact lw_602 hC hM hi7 hl next
        rw [if_neg h16]
        by_cases h17 : v = 17
        · rw [if_pos h17]
          exact lw_625 hC hM hi7 hl next
        rw [if_neg h17]
        by_cases h18 : v = 18
        · rw [if_pos h18]
          exact lw_658 hC hM hi7 hl next
        rw [if_neg h18]
        by_cases h19 : v = 19
        · rw [if_pos h19]
          exact lw_691 hC hM hi7 hl next
        rw [if_neg h19]
        by_cases h20 : v = 20
        · rw [if_pos h20]
          exact lw_714 hC hM hi7 hl next
        rw [if_neg h20]
        by_cases h21 : v = 21
        · rw [if_pos h21]
          exact lw_737 hC hM hi7 hl next
        rw [if_neg h21]
        by_cases h22 : v = 22
        · rw [if_pos h22]
          exact lw_750 hC hM hi7 hl next
        rw [if_neg h22]
        by_cases h23 : v = 23
        · rw [if_pos h23]
          exact lw_763 hC hM hi7 hl next
        rw [if_neg h23]
        by_cases h24 : v = 24
        · rw [if_pos h24]
          exact lw_796 hC hM hi7 hl next
        rw [if_neg h24]
        by_cases h25 : v = 25
        · rw [if_pos h25]
          exact lw_809 hC hM hi7 hl next
        rw [if_neg h25]
        by_cases h26 : v = 26
        · rw [if_pos h26]
          exact lw_842 hC hM hi7 hl next
        rw [if_neg h26]
        by_cases h27 : v = 27
        · rw [if_pos h27]
          exact lw_885 hC hM hi7 hl next
        rw [if_neg h27]
        by_cases h28 : v = 28
        · rw [if_pos h28]
          exact lw_908 hC hM hi7 hl next
        rw [if_neg h28]
        by_cases h29 : v = 29
        · rw [if_pos h29]
          exact lw_931 hC hM hi7 hl next
        rw [if_neg h29]
        by_cases h30 : v = 30
        · rw [if_pos h30]
          exact lw_954 hC hM hi7 hl next
        rw [if_neg h30]
        by_cases h31 : v = 31
        · rw [if_pos h31]
          exact lw_997 hC hM hi7 hl next
        rw [if_neg h31]
        by_cases h32 : v = 32
        · rw [if_pos h32]
          exact lw_1010 hC hM hi7 hl next
        rw [if_neg h32]
        by_cases h33 : v = 33
        · rw [if_pos h33]
          exact lw_1023 hC hM hi7 hl next
        rw [if_neg h33]
        by_cases h34 : v = 34
        · rw [if_pos h34]
          exact lw_1098 hC hM hi7 hl next
        rw [if_neg h34]
        by_cases h35 : v = 35
        · rw [if_pos h35]
          exact lw_1161 hC hM hi7 hl next
        rw [if_neg h35]
        by_cases h36 : v = 36
        · rw [if_pos h36]
          exact lw_1204 hC hM hi7 hl next
        rw [if_neg h36]
        by_cases h37 : v = 37
        · rw [if_pos h37]
          exact lw_1227 hC hM hi7 hl next
        rw [if_neg h37]
        by_cases h38 : v = 38
        · rw [if_pos h38]
          exact lw_1310 hC hM hi7 hl next
        rw [if_neg h38]
        exact next S σ hC hM
  have := main len 0 S_0 σ_0 (by omega) (by omega) CI_0 MI_0
  rw [hp_0_eq]
  exact this
