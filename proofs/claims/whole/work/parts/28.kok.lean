/-! what the constructors leave -/
theorem zKH_ok : zOk (f_X1_startAnewH zMZ) zKH := by
  unfold f_X1_startAnewH
  rw [zk_bnd, zk_bnd, zk_bnd, zk_bind]
  refine zOk_mono (zp_fill 2 400 (by omega) _ _) (fun M1 h1 => ?_)
  obtain ⟨a1, a2, a3, a4⟩ := h1
  rw [zk_bind]
  refine zOk_mono (zp_fill 6 20 (by omega) _ _) (fun M2 h2 => ?_)
  obtain ⟨b1, b2, b3, b4⟩ := h2
  rw [zk_bnd, zk_bnd, zk_bnd, zk_some]
  refine ⟨?_, ?_, ?_, ?_, ?_, ?_, ?_, ?_, ?_⟩
  · rw [zm_Iq _ _ _ _ (by decide), zm_Iq _ _ _ _ (by decide), zm_Iq _ _ _ _ (by decide), b3 1 (by decide), a3 1 (by decide)]
    rfl
  · rw [zm_Iq _ _ _ _ (by decide), zm_Iq _ _ _ _ (by decide), zm_Iq _ _ _ _ (by decide), b3 1 (by decide), a3 1 (by decide)]
    rfl
  · rw [zm_Iq _ _ _ _ (by decide), zm_Iq _ _ _ _ (by decide), zm_Iq _ _ _ _ (by decide), b3 1 (by decide), a3 1 (by decide)]
    rfl
  · intro k hk
    rw [zm_Iq _ _ _ _ (by decide), zm_Iq _ _ _ _ (by decide), zm_Iq _ _ _ _ (by decide), b3 2 (by decide)]
    exact a1 k hk
  · intro k hk
    rw [zm_Iq _ _ _ _ (by decide), zm_Iq _ _ _ _ (by decide), zm_Iq _ _ _ _ (by decide)]
    exact b1 k hk
  · rw [zm_In _ _ _ _ (by decide), zm_In _ _ _ _ (by decide), zm_Is]
    rfl
  · rw [zm_In _ _ _ _ (by decide), zm_Is]
    rfl
  · rw [zm_Is]
    rfl
  · rw [zm_I2, zm_I2, zm_I2, b4, a4]
    rfl
theorem zKR_l1 (M : ZMem) : zOk (zloop f_X12_clearsTold_L2 (M, zI 0)) (fun M' => (∀ k, k < 460 → M'.1 9 k = zI 0) ∧ (∀ a, a ≠ 9 → M'.1 a = M.1 a) ∧ M'.2 = M.2) := by
  refine zOk_for0 (fun i s => s.2 = zI i ∧ (∀ k, k < i → s.1.1 9 k = zI 0) ∧ (∀ a, a ≠ 9 → s.1.1 a = M.1 a) ∧ s.1.2 = M.2) 460 ?_ ?_ ?_
  · intro i s hi ⟨h1, h2, h4, h5⟩
    unfold f_X12_clearsTold_L2
    rw [h1, zI_ix (by omega) (by omega)]
    rw [if_neg (by rw [zI_le (by omega) (by omega) (by omega) (by omega)]; omega)]
    rw [zk_chk, zk_bnd, zk_bnd, zk_some]
    refine ⟨zI_inI (by omega) (by omega) (by omega), ?_, ?_, ?_, ?_⟩
    · rw [zI_add]
      rfl
    · intro k hk
      rw [zm_I]
      split
      · rfl
      · exact h2 k (by omega)
    · intro a ha
      rw [zm_Iq _ _ _ _ ha]
      exact h4 a ha
    · exact h5
  · intro s ⟨h1, h2, h4, h5⟩
    unfold f_X12_clearsTold_L2
    rw [h1, if_pos (by rw [zI_le (by omega) (by omega) (by omega) (by omega)]; omega), zk_some]
    exact ⟨h2, h4, h5⟩
  · exact ⟨rfl, fun k hk => absurd hk (Nat.not_lt_zero k), fun _ _ => rfl, rfl⟩
theorem zKR_l2 (M : ZMem) : zOk (zloop f_X12_clearsTold_L45 (M, zI 0)) (fun M' => (∀ k, k < 20 → M'.1 9 (4 + k) = zI (-1)) ∧ (∀ k, k < 4 ∨ 24 ≤ k → M'.1 9 k = M.1 9 k) ∧ (∀ a, a ≠ 9 → M'.1 a = M.1 a) ∧ M'.2 = M.2) := by
  refine zOk_for0 (fun i s => s.2 = zI i ∧ (∀ k, k < i → s.1.1 9 (4 + k) = zI (-1)) ∧ (∀ k, k < 4 ∨ 24 ≤ k → s.1.1 9 k = M.1 9 k) ∧ (∀ a, a ≠ 9 → s.1.1 a = M.1 a) ∧ s.1.2 = M.2) 20 ?_ ?_ ?_
  · intro i s hi ⟨h1, h2, h3, h4, h5⟩
    unfold f_X12_clearsTold_L45
    rw [h1, zI_add, zI_ix (by omega) (by omega)]
    rw [if_neg (by rw [zI_le (by omega) (by omega) (by omega) (by omega)]; omega)]
    rw [zk_chk, zk_bnd, zk_bnd, zk_some]
    refine ⟨zI_inI (by omega) (by omega) (by omega), ?_, ?_, ?_, ?_, ?_⟩
    · rw [zI_add]
      rfl
    · intro k hk
      rw [zm_I]
      split
      · rfl
      · exact h2 k (by omega)
    · intro k hk
      rw [zm_I, if_neg (by omega)]
      exact h3 k hk
    · intro a ha
      rw [zm_Iq _ _ _ _ ha]
      exact h4 a ha
    · exact h5
  · intro s ⟨h1, h2, h3, h4, h5⟩
    unfold f_X12_clearsTold_L45
    rw [h1, if_pos (by rw [zI_le (by omega) (by omega) (by omega) (by omega)]; omega), zk_some]
    exact ⟨h2, h3, h4, h5⟩
  · exact ⟨rfl, fun k hk => absurd hk (Nat.not_lt_zero k), fun _ _ => rfl, fun _ _ => rfl, rfl⟩
theorem zKR_ok : zOk (f_X12_clearsTold zMZ) zKR := by
  unfold f_X12_clearsTold
  rw [zk_bind]
  refine zOk_mono (zKR_l1 zMZ) (fun M1 h1 => ?_)
  obtain ⟨a1, a3, a4⟩ := h1
  rw [zk_bnd, zk_bnd, zk_bnd, zk_bind]
  refine zOk_mono (zKR_l2 _) (fun M2 h2 => ?_)
  obtain ⟨b1, b2, b3, b4⟩ := h2
  rw [zk_bnd, zk_bnd, zk_some]
  have z0 : zix (zI 0) = 0 := rfl
  have z1 : zix (zI 1) = 1 := rfl
  have z2 : zix (zI 2) = 2 := rfl
  rw [z0, z1, z2] at b2 b3
  refine ⟨?_, ?_, ?_, ?_, ?_, ?_, ?_, ?_⟩
  · intro q h9 h0
    rw [zm_Iq _ _ _ _ h0, zm_Iq _ _ _ _ h0, b3 q h9, zm_Iq _ _ _ _ h9, zm_Iq _ _ _ _ h9, zm_Iq _ _ _ _ h9, a3 q h9]
    rfl
  · intro k
    rw [zm_I]
    split
    · rfl
    · rw [zm_I]
      split
      · rfl
      · rw [b3 0 (by decide), zm_Iq _ _ _ _ (by decide), zm_Iq _ _ _ _ (by decide), zm_Iq _ _ _ _ (by decide), a3 0 (by decide)]
        rfl
  · rw [zm_Iq _ _ _ _ (by decide), zm_Iq _ _ _ _ (by decide), b2 0 (by omega), zm_In _ _ _ _ (by decide), zm_In _ _ _ _ (by decide), zm_Is]
    rfl
  · rw [zm_Iq _ _ _ _ (by decide), zm_Iq _ _ _ _ (by decide), b2 1 (by omega), zm_In _ _ _ _ (by decide), zm_Is]
    rfl
  · rw [zm_Iq _ _ _ _ (by decide), zm_Iq _ _ _ _ (by decide), b2 2 (by omega), zm_Is]
    rfl
  · rw [zm_Iq _ _ _ _ (by decide), zm_Iq _ _ _ _ (by decide), b2 3 (by omega), zm_In _ _ _ _ (by decide), zm_In _ _ _ _ (by decide), zm_In _ _ _ _ (by decide)]
    exact a1 3 (by omega)
  · intro k hk
    rw [zm_Iq _ _ _ _ (by decide), zm_Iq _ _ _ _ (by decide)]
    exact b1 k hk
  · intro k h1 h2
    rw [zm_Iq _ _ _ _ (by decide), zm_Iq _ _ _ _ (by decide), b2 k (by omega), zm_In _ _ _ _ (by omega), zm_In _ _ _ _ (by omega), zm_In _ _ _ _ (by omega)]
    exact a1 k h2
