/-! ===== forms told: what is cleared ===== deps: 97.zyc.formsr -/
/-- what is told at the beginning -/
def zh0 (k : Nat) : Int := if k = 0 then 2 else if k = 1 then 3 else if k = 2 then 2 else if 4 ≤ k ∧ k < 24 then -1 else 0
def zWcs (a k : Nat) : Bool := a == 9 || (a == 0 && (k == 17 || k == 45))
theorem r_clears (M : ZMem) : zOk (f_X12_clearsTold M) (fun M' => handR zh0 M' ∧ M'.1 0 17 = zI 0 ∧ M'.1 0 45 = zI 0 ∧ zP zWcs M M') := by
  unfold f_X12_clearsTold
  rw [zk_bind]
  refine zOk_for0 (fun i s => s.2 = zI i ∧ (∀ k, k < i → s.1.1 9 k = zI 0) ∧ zP zWcs M s.1) 460 ?_ ?_ ⟨rfl, fun k hk => absurd hk (Nat.not_lt_zero k), zP_rf⟩
  · rintro i ⟨N, x⟩ hi ⟨e1, e2, e3⟩
    dsimp only at e1 e2 e3
    unfold f_X12_clearsTold_L2
    dsimp only
    rw [e1, if_neg (by simp (disch := omega) only [zk_bind, zk_chk, zk_bnd, zk_some, zlp_l, zlp_r, zb_some, zb_bnd, zI_add, zI_sub, zI_mul, zI_neg, zI_le, zI_lt, zI_eq, zI_ix, zI_inI, Int.toNat_natCast, Int.toNat_add, Int.toNat_mul, true_and, and_true]; omega), zI_inI (by omega) (by omega) (by omega), zb_chk, zk_bnd, zI_ix (by omega) (by omega), Int.toNat_natCast, zI_add, zk_bnd, zk_some, zlp_l]
    refine ⟨zI_inj (by omega), fun k hk => ?_, zP_I e3 rfl⟩
    by_cases hki : k = i
    · rw [hki, zm_Is]
    · rw [zm_In _ _ _ _ hki]; exact e2 k (by omega)
  · rintro ⟨N, x⟩ ⟨e1, e2, e3⟩
    dsimp only at e1 e2 e3
    unfold f_X12_clearsTold_L2
    dsimp only
    rw [e1, if_pos (by simp (disch := omega) only [zk_bind, zk_chk, zk_bnd, zk_some, zlp_l, zlp_r, zb_some, zb_bnd, zI_add, zI_sub, zI_mul, zI_neg, zI_le, zI_lt, zI_eq, zI_ix, zI_inI, Int.toNat_natCast, Int.toNat_add, Int.toNat_mul, true_and, and_true]; omega), zk_some, zlp_r, zk_bnd, zk_bnd, zk_bnd, zk_bind]
    have z0 : zix (zI 0) = 0 := rfl
    have z1 : zix (zI 1) = 1 := rfl
    have z2 : zix (zI 2) = 2 := rfl
    rw [z0, z1, z2]
    have p0 : zP zWcs M (zstI (zstI (zstI N 9 0 (zI 2)) 9 1 (zI 3)) 9 2 (zI 2)) := zP_I (zP_I (zP_I e3 rfl) rfl) rfl
    have v0 : (zstI (zstI (zstI N 9 0 (zI 2)) 9 1 (zI 3)) 9 2 (zI 2)).1 9 0 = zI 2 := by rw [zm_In _ _ _ _ (by decide), zm_In _ _ _ _ (by decide), zm_Is]
    have v1 : (zstI (zstI (zstI N 9 0 (zI 2)) 9 1 (zI 3)) 9 2 (zI 2)).1 9 1 = zI 3 := by rw [zm_In _ _ _ _ (by decide), zm_Is]
    have v2 : (zstI (zstI (zstI N 9 0 (zI 2)) 9 1 (zI 3)) 9 2 (zI 2)).1 9 2 = zI 2 := by rw [zm_Is]
    have vk : ∀ k, 3 ≤ k → k < 460 → (zstI (zstI (zstI N 9 0 (zI 2)) 9 1 (zI 3)) 9 2 (zI 2)).1 9 k = zI 0 := fun k h1 h2 => by rw [zm_In _ _ _ _ (by omega), zm_In _ _ _ _ (by omega), zm_In _ _ _ _ (by omega)]; exact e2 k h2
    generalize zstI (zstI (zstI N 9 0 (zI 2)) 9 1 (zI 3)) 9 2 (zI 2) = N2 at p0 v0 v1 v2 vk ⊢
    refine zOk_for0 (fun i s => s.2 = zI i ∧ (∀ k, k < i → s.1.1 9 (4 + k) = zI (-1)) ∧ (∀ k, k < 4 ∨ 24 ≤ k → s.1.1 9 k = N2.1 9 k) ∧ zP zWcs M s.1) 20 ?_ ?_ ⟨rfl, fun k hk => absurd hk (Nat.not_lt_zero k), fun k _ => rfl, p0⟩
    · rintro i ⟨D, x⟩ hi ⟨d1, d2, d3, d4⟩
      dsimp only at d1 d2 d3 d4
      unfold f_X12_clearsTold_L45
      dsimp only
      rw [d1, if_neg (by simp (disch := omega) only [zk_bind, zk_chk, zk_bnd, zk_some, zlp_l, zlp_r, zb_some, zb_bnd, zI_add, zI_sub, zI_mul, zI_neg, zI_le, zI_lt, zI_eq, zI_ix, zI_inI, Int.toNat_natCast, Int.toNat_add, Int.toNat_mul, true_and, and_true]; omega), zI_add, zI_inI (by omega) (by omega) (by omega), zb_chk, zk_bnd, zI_ix (by omega) (by omega), show (4 + (i : Int)).toNat = 4 + i by omega, zI_add, zk_bnd, zk_some, zlp_l]
      refine ⟨zI_inj (by omega), fun k hk => ?_, fun k hk => ?_, zP_I d4 rfl⟩
      · by_cases hki : k = i
        · rw [hki, zm_Is]
        · rw [zm_In _ _ _ _ (by omega)]; exact d2 k (by omega)
      · rw [zm_In _ _ _ _ (by omega)]; exact d3 k hk
    · rintro ⟨D, x⟩ ⟨d1, d2, d3, d4⟩
      dsimp only at d1 d2 d3 d4
      unfold f_X12_clearsTold_L45
      dsimp only
      rw [d1, if_pos (by simp (disch := omega) only [zk_bind, zk_chk, zk_bnd, zk_some, zlp_l, zlp_r, zb_some, zb_bnd, zI_add, zI_sub, zI_mul, zI_neg, zI_le, zI_lt, zI_eq, zI_ix, zI_inI, Int.toNat_natCast, Int.toNat_add, Int.toNat_mul, true_and, and_true]; omega), zk_some, zlp_r, zk_bnd, zk_bnd, zk_some]
      refine ⟨fun k hk => ?_, by rw [zm_In _ _ _ _ (by decide), zm_Is], by rw [zm_Is], zP_I (zP_I d4 rfl) rfl⟩
      rw [zm_Iq _ _ _ _ (by decide), zm_Iq _ _ _ _ (by decide)]
      unfold zh0
      by_cases h0 : k = 0
      · rw [if_pos h0, h0, d3 0 (by omega)]; exact v0
      · rw [if_neg h0]
        by_cases h1 : k = 1
        · rw [if_pos h1, h1, d3 1 (by omega)]; exact v1
        · rw [if_neg h1]
          by_cases h2 : k = 2
          · rw [if_pos h2, h2, d3 2 (by omega)]; exact v2
          · rw [if_neg h2]
            by_cases h4 : 4 ≤ k ∧ k < 24
            · rw [if_pos h4]
              have := d2 (k - 4) (by omega)
              rwa [show 4 + (k - 4) = k by omega] at this
            · rw [if_neg h4, d3 k (by omega)]
              exact vk k (by omega) hk
