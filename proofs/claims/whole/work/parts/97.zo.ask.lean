/-! ===== calls that ask of rows and words ===== deps: 97.zj.fresh -/
noncomputable abbrev dL (σ : ZT) : List (Nat × Nat) := dLX (gF σ) (gf σ) (gs σ) (gh σ)
noncomputable abbrev dR (σ : ZT) : Nat → Nat → Nat := dRS (gF σ) (gf σ) (gs σ) (gh σ)
noncomputable abbrev dS (σ : ZT) : Nat → Nat := zsg (gF σ) (gf σ) (gh σ)
theorem dL_ok {σ : ZT} (ho : okT σ) : okL (dL σ) := dLX_ok ho.2.1 ho.2.2.1
theorem dR_ok {σ : ZT} (ho : okT σ) : okRw (zRL (gs σ)) (dR σ) := dRS_ok ho.2.1 ho.2.2.1
theorem zp_judged : zPr_judged zRel := by
  rintro M1 M2 a1 ⟨σ, ho, hc, hr⟩
  obtain ⟨a, rfl, l1, u1⟩ := zI_of a1
  have hF := ho.2.1
  unfold f_X11_judged f_X12_judged
  rw [zk_bind]
  refine zOk_mono (k_fs ho hc) (fun C' h => ?_)
  have hs := h.1.2.2.2.2.2.2.1 h.2
  rw [c_verdict ho.2.2.1 hs.2.1 a l1 u1, zb_some, zk_some, zk_bind]
  refine zOk_mono (k_ls ho hr) (fun R' h' => ?_)
  have hl := h'.2.2
  have hRel : zRel C' R' := ⟨σ, ho, h.1, h'.1⟩
  have sg := hl.1.1
  have sgl : ∀ f, f < gF σ → dS σ f < 20 := fun f hf => zsgl ho hf
  by_cases c0 : a = 0
  · rw [if_pos (by rw [c0]), r_judgedWay hF sg sgl ho.2.2.1 h'.1.2.2.1, zb_some, zk_some, if_pos c0]
    exact ⟨rfl, hRel⟩
  · rw [if_neg (c := zI a = zI 0) (by simp (disch := omega) only [zk_bind, zk_chk, zk_bnd, zk_some, zlp_l, zlp_r, zb_some, zb_bnd, zI_add, zI_sub, zI_mul, zI_neg, zI_le, zI_lt, zI_eq, zI_ix, zI_inI, Int.toNat_natCast, Int.toNat_add, Int.toNat_mul, true_and, and_true]; omega), if_neg c0]
    by_cases c1 : a = 1
    · rw [if_pos (by rw [c1]), show f_X12_ragged R' (zI 0) = some (zI (zrag (gs σ) 0)) from r_ragged hF ho.2.2.1 h'.1.2.2.1 (side := 0) (by omega), zb_some, zk_some, if_pos c1]
      exact ⟨rfl, hRel⟩
    · rw [if_neg (c := zI a = zI 1) (by simp (disch := omega) only [zk_bind, zk_chk, zk_bnd, zk_some, zlp_l, zlp_r, zb_some, zb_bnd, zI_add, zI_sub, zI_mul, zI_neg, zI_le, zI_lt, zI_eq, zI_ix, zI_inI, Int.toNat_natCast, Int.toNat_add, Int.toNat_mul, true_and, and_true]; omega), if_neg c1]
      by_cases c2 : a = 2
      · rw [if_pos (by rw [c2]), show f_X12_ragged R' (zI 1) = some (zI (zrag (gs σ) 1)) from r_ragged hF ho.2.2.1 h'.1.2.2.1 (side := 1) (by omega), zb_some, zk_some, if_pos c2]
        exact ⟨rfl, hRel⟩
      · rw [if_neg (c := zI a = zI 2) (by simp (disch := omega) only [zk_bind, zk_chk, zk_bnd, zk_some, zlp_l, zlp_r, zb_some, zb_bnd, zI_add, zI_sub, zI_mul, zI_neg, zI_le, zI_lt, zI_eq, zI_ix, zI_inI, Int.toNat_natCast, Int.toNat_add, Int.toNat_mul, true_and, and_true]; omega), if_neg c2]
        by_cases c3 : a = 3
        · rw [if_pos (by rw [c3]), show f_X12_ends R' (zI 0) = some (zI (zends (gs σ) (dS σ) 0)) from r_ends hF sg sgl ho.2.2.1 h'.1.2.2.1 (side := 0) (by omega), zb_some, zk_some, if_pos c3]
          exact ⟨rfl, hRel⟩
        · rw [if_neg (c := zI a = zI 3) (by simp (disch := omega) only [zk_bind, zk_chk, zk_bnd, zk_some, zlp_l, zlp_r, zb_some, zb_bnd, zI_add, zI_sub, zI_mul, zI_neg, zI_le, zI_lt, zI_eq, zI_ix, zI_inI, Int.toNat_natCast, Int.toNat_add, Int.toNat_mul, true_and, and_true]; omega), if_neg c3]
          by_cases c4 : a = 4
          · rw [if_pos (by rw [c4]), show f_X12_ends R' (zI 1) = some (zI (zends (gs σ) (dS σ) 1)) from r_ends hF sg sgl ho.2.2.1 h'.1.2.2.1 (side := 1) (by omega), zb_some, zk_some, if_pos c4]
            exact ⟨rfl, hRel⟩
          · rw [if_neg (c := zI a = zI 4) (by simp (disch := omega) only [zk_bind, zk_chk, zk_bnd, zk_some, zlp_l, zlp_r, zb_some, zb_bnd, zI_add, zI_sub, zI_mul, zI_neg, zI_le, zI_lt, zI_eq, zI_ix, zI_inI, Int.toNat_natCast, Int.toNat_add, Int.toNat_mul, true_and, and_true]; omega), if_neg c4, zk_some]
            exact ⟨rfl, hRel⟩
theorem zp_word : zPr_word zRel := by
  rintro M1 M2 a1 a2 ⟨σ, ho, hc, hr⟩
  obtain ⟨a, rfl, l1, u1⟩ := zI_of a1
  obtain ⟨b, rfl, l2, u2⟩ := zI_of a2
  have okl := dL_ok ho
  have hW := okl.1
  unfold f_X11_word f_X12_word
  rw [zk_bind]
  refine zOk_mono (k_fs ho hc) (fun C' h => ?_)
  have hs := h.1.2.2.2.2.2.2.1 h.2
  have hlC : lexC (dL σ) C' := hs.2.2.2.1.1
  have hl37 : ∀ i, i < (dL σ).length → C'.1 37 i = zI (zkl (zE (dL σ) i).1) := hs.2.2.2.1.2.1
  rw [zk_bind]
  have cont : ∀ v : Int32, f_X2_wordFact C' (zI a) (zI b) = some v → (∀ R', relR σ R' → lexR (dL σ) R' → zbind (f_X12_in R' (zI a) (zI 0) ((R'.1 0 25) - (zI 1))) (fun r_12 => if r_12 = (zI 0) then some (R', (zI (-1))) else zbind (f_X12_in R' (zI b) (zI 0) (zI 8)) (fun r_22 => if r_22 = (zI 0) then some (R', (zI (-1))) else if (zI b) = (zI 0) then zchk (zin (zI a) 241) (some (R', (R'.1 18 (zix (zI a))))) else if (zI b) = (zI 1) then zchk (zin (zI a) 241) (some (R', (R'.1 16 (zix (zI a))))) else zchk (zin ((((zI 7) * (zI a)) + (zI b)) - (zI 2)) 1687) (some (R', (R'.1 17 (zix ((((zI 7) * (zI a)) + (zI b)) - (zI 2)))))))) = some (R', v)) → zOk (f_X2_wordFact C' (zI a) (zI b)) (fun r_10 => zOk (some (C', r_10)) (fun r1 => zOk (zbind (f_X12_lays M2) (fun M_1 => zbind (f_X12_in M_1 (zI a) (zI 0) ((M_1.1 0 25) - (zI 1))) (fun r_12 => if r_12 = (zI 0) then some (M_1, (zI (-1))) else zbind (f_X12_in M_1 (zI b) (zI 0) (zI 8)) (fun r_22 => if r_22 = (zI 0) then some (M_1, (zI (-1))) else if (zI b) = (zI 0) then zchk (zin (zI a) 241) (some (M_1, (M_1.1 18 (zix (zI a))))) else if (zI b) = (zI 1) then zchk (zin (zI a) 241) (some (M_1, (M_1.1 16 (zix (zI a))))) else zchk (zin ((((zI 7) * (zI a)) + (zI b)) - (zI 2)) 1687) (some (M_1, (M_1.1 17 (zix ((((zI 7) * (zI a)) + (zI b)) - (zI 2))))))))) ) (fun r2 => r1.2 = r2.2 ∧ zRel r1.1 r2.1))) := by
    intro v e1 e2
    rw [e1, zk_some, zk_some, zk_bind]
    refine zOk_mono (k_ls ho hr) (fun R' h' => ?_)
    rw [e2 R' h'.1 h'.2.2.2.2.1.1, zk_some]
    exact ⟨rfl, σ, ho, h.1, h'.1⟩
  by_cases h1 : 0 ≤ a ∧ a < (dL σ).length
  · obtain ⟨w, rfl⟩ := Int.eq_ofNat_of_zero_le h1.1
    have hw : w < (dL σ).length := by omega
    have hasw : f_X2_has C' (zI w) = some (zI 1) := by rw [c_has2 hlC.1 hW l1 u1, zb_t h1]; rfl
    have refI : ∀ R' : ZMem, lexR (dL σ) R' → f_X12_in R' (zI w) (zI 0) ((R'.1 0 25) - (zI 1)) = some (zI 1) := by
      intro R' hR
      rw [hR.1, zI_sub, r_in (by omega) (by omega) (by omega) (by omega) (by omega) (by omega), zb_t (by omega)]
      rfl
    have wf : ∀ v, (if (zI 0) ≤ zI b then if zI b = (zI 0) then zchk (zin (zI w) 120) (some (C'.1 36 (zix (zI w)))) else if zI b = (zI 1) then zchk (zin (zI w) 120) (some (C'.1 37 (zix (zI w)))) else zbind (f_X2_signAt C' (zI w) (zI b - (zI 2))) (fun r_44 => some r_44) else some (zI (-1))) = some v → f_X2_wordFact C' (zI w) (zI b) = some v := by
      intro v e
      unfold f_X2_wordFact
      rw [hasw, zb_some, if_neg (by decide)]
      exact e
    by_cases h8 : 0 ≤ b ∧ b ≤ 8
    · by_cases b0 : b = 0
      · refine cont (zI (zE (dL σ) w).2) (wf _ ?_) (fun R' hR1 hR => ?_)
        · rw [if_pos (by simp (disch := omega) only [zk_bind, zk_chk, zk_bnd, zk_some, zlp_l, zlp_r, zb_some, zb_bnd, zI_add, zI_sub, zI_mul, zI_neg, zI_le, zI_lt, zI_eq, zI_ix, zI_inI, Int.toNat_natCast, Int.toNat_add, Int.toNat_mul, true_and, and_true]; omega), if_pos (by rw [b0]), zI_inI (by omega) (by omega) (by omega), zb_chk, zI_ix (by omega) (by omega), Int.toNat_natCast, (hlC.2 w hw).2]
        · rw [refI R' hR, zb_some, if_neg (by decide), r_in l2 u2 (by omega) (by omega) (by omega) (by omega), zb_some, if_neg (fun hh => zb_0.mp hh h8), if_pos (by rw [b0]), zI_inI (by omega) (by omega) (by omega), zb_chk, zI_ix (by omega) (by omega), Int.toNat_natCast, (hR.2 w hw).2.1]
      · by_cases b1 : b = 1
        · refine cont (zI (zkl (zE (dL σ) w).1)) (wf _ ?_) (fun R' hR1 hR => ?_)
          · rw [if_pos (by simp (disch := omega) only [zk_bind, zk_chk, zk_bnd, zk_some, zlp_l, zlp_r, zb_some, zb_bnd, zI_add, zI_sub, zI_mul, zI_neg, zI_le, zI_lt, zI_eq, zI_ix, zI_inI, Int.toNat_natCast, Int.toNat_add, Int.toNat_mul, true_and, and_true]; omega), if_neg (by simp (disch := omega) only [zk_bind, zk_chk, zk_bnd, zk_some, zlp_l, zlp_r, zb_some, zb_bnd, zI_add, zI_sub, zI_mul, zI_neg, zI_le, zI_lt, zI_eq, zI_ix, zI_inI, Int.toNat_natCast, Int.toNat_add, Int.toNat_mul, true_and, and_true]; omega), if_pos (by rw [b1]), zI_inI (by omega) (by omega) (by omega), zb_chk, zI_ix (by omega) (by omega), Int.toNat_natCast, hl37 w hw]
          · rw [refI R' hR, zb_some, if_neg (by decide), r_in l2 u2 (by omega) (by omega) (by omega) (by omega), zb_some, if_neg (fun hh => zb_0.mp hh h8), if_neg (by simp (disch := omega) only [zk_bind, zk_chk, zk_bnd, zk_some, zlp_l, zlp_r, zb_some, zb_bnd, zI_add, zI_sub, zI_mul, zI_neg, zI_le, zI_lt, zI_eq, zI_ix, zI_inI, Int.toNat_natCast, Int.toNat_add, Int.toNat_mul, true_and, and_true]; omega), if_pos (by rw [b1]), zI_inI (by omega) (by omega) (by omega), zb_chk, zI_ix (by omega) (by omega), Int.toNat_natCast, (hR.2 w hw).1]
        · obtain ⟨t, ht⟩ := Int.eq_ofNat_of_zero_le (show 0 ≤ b - 2 by omega)
          refine cont (zI (zks (zK (dL σ) w) t)) (wf _ ?_) (fun R' hR1 hR => ?_)
          · rw [if_pos (by simp (disch := omega) only [zk_bind, zk_chk, zk_bnd, zk_some, zlp_l, zlp_r, zb_some, zb_bnd, zI_add, zI_sub, zI_mul, zI_neg, zI_le, zI_lt, zI_eq, zI_ix, zI_inI, Int.toNat_natCast, Int.toNat_add, Int.toNat_mul, true_and, and_true]; omega), if_neg (by simp (disch := omega) only [zk_bind, zk_chk, zk_bnd, zk_some, zlp_l, zlp_r, zb_some, zb_bnd, zI_add, zI_sub, zI_mul, zI_neg, zI_le, zI_lt, zI_eq, zI_ix, zI_inI, Int.toNat_natCast, Int.toNat_add, Int.toNat_mul, true_and, and_true]; omega), if_neg (by simp (disch := omega) only [zk_bind, zk_chk, zk_bnd, zk_some, zlp_l, zlp_r, zb_some, zb_bnd, zI_add, zI_sub, zI_mul, zI_neg, zI_le, zI_lt, zI_eq, zI_ix, zI_inI, Int.toNat_natCast, Int.toNat_add, Int.toNat_mul, true_and, and_true]; omega), zI_sub, ht, c_signAt2 okl hlC hw (show t < 7 by omega), zb_some]
          · rw [refI R' hR, zb_some, if_neg (by decide), r_in l2 u2 (by omega) (by omega) (by omega) (by omega), zb_some, if_neg (fun hh => zb_0.mp hh h8), if_neg (by simp (disch := omega) only [zk_bind, zk_chk, zk_bnd, zk_some, zlp_l, zlp_r, zb_some, zb_bnd, zI_add, zI_sub, zI_mul, zI_neg, zI_le, zI_lt, zI_eq, zI_ix, zI_inI, Int.toNat_natCast, Int.toNat_add, Int.toNat_mul, true_and, and_true]; omega), if_neg (by simp (disch := omega) only [zk_bind, zk_chk, zk_bnd, zk_some, zlp_l, zlp_r, zb_some, zb_bnd, zI_add, zI_sub, zI_mul, zI_neg, zI_le, zI_lt, zI_eq, zI_ix, zI_inI, Int.toNat_natCast, Int.toNat_add, Int.toNat_mul, true_and, and_true]; omega), zI_mul, zI_add, zI_sub, zI_inI (by omega) (by omega) (by omega), zb_chk, zI_ix (by omega) (by omega), show (7 * (w : Int) + b - 2).toNat = 7 * w + t by omega, (hR.2 w hw).2.2 t (by omega)]
            rfl
    · refine cont (zI (-1)) (wf _ ?_) (fun R' hR1 hR => ?_)
      · by_cases b0 : b < 0
        · rw [if_neg (by simp (disch := omega) only [zk_bind, zk_chk, zk_bnd, zk_some, zlp_l, zlp_r, zb_some, zb_bnd, zI_add, zI_sub, zI_mul, zI_neg, zI_le, zI_lt, zI_eq, zI_ix, zI_inI, Int.toNat_natCast, Int.toNat_add, Int.toNat_mul, true_and, and_true]; omega)]
        · rw [if_pos (by simp (disch := omega) only [zk_bind, zk_chk, zk_bnd, zk_some, zlp_l, zlp_r, zb_some, zb_bnd, zI_add, zI_sub, zI_mul, zI_neg, zI_le, zI_lt, zI_eq, zI_ix, zI_inI, Int.toNat_natCast, Int.toNat_add, Int.toNat_mul, true_and, and_true]; omega), if_neg (by simp (disch := omega) only [zk_bind, zk_chk, zk_bnd, zk_some, zlp_l, zlp_r, zb_some, zb_bnd, zI_add, zI_sub, zI_mul, zI_neg, zI_le, zI_lt, zI_eq, zI_ix, zI_inI, Int.toNat_natCast, Int.toNat_add, Int.toNat_mul, true_and, and_true]; omega), if_neg (by simp (disch := omega) only [zk_bind, zk_chk, zk_bnd, zk_some, zlp_l, zlp_r, zb_some, zb_bnd, zI_add, zI_sub, zI_mul, zI_neg, zI_le, zI_lt, zI_eq, zI_ix, zI_inI, Int.toNat_natCast, Int.toNat_add, Int.toNat_mul, true_and, and_true]; omega), zI_sub]
          unfold f_X2_signAt
          rw [hasw, zb_some, if_neg (by decide), zI_inI (by omega) (by omega) (by omega), zb_chk, zsigO _ _ (by omega) (by omega) (by omega), zb_some, zb_some]
      · rw [refI R' hR, zb_some, if_neg (by decide), r_in l2 u2 (by omega) (by omega) (by omega) (by omega), zb_some, if_pos (zb_0.mpr h8)]
  · refine cont (zI (-1)) ?_ (fun R' hR1 hR => ?_)
    · unfold f_X2_wordFact
      rw [c_has2 hlC.1 hW l1 u1, zb_some, if_pos (zb_0.mpr h1)]
    · rw [hR.1, zI_sub, r_in l1 u1 (by omega) (by omega) (by omega) (by omega), zb_some, if_pos (zb_0.mpr (by omega))]
-- rank
theorem zah_lt {l : List (Nat × Nat)} {W w v : Nat} (hw : w < W) (h : zahd l w v) : zah l W w < zah l W v := by
  refine zsum_lt (fun i hi => zb_mono (fun hh => ?_)) hw ?_
  · unfold zahd at h hh ⊢
    omega
  · rw [zb_t h, zb_f (by unfold zahd; omega)]
    omega
theorem zah_inj {l : List (Nat × Nat)} {W w v : Nat} (hw : w < W) (hv : v < W) (h : zah l W w = zah l W v) : w = v := by
  by_cases hwv : w = v
  · exact hwv
  · exfalso
    by_cases h1 : zahd l w v
    · have := zah_lt hw h1
      omega
    · have h2 : zahd l v w := by
        unfold zahd at h1 ⊢
        omega
      have := zah_lt hv h2
      omega
theorem zah_ltW {l : List (Nat × Nat)} {W w : Nat} (hw : w < W) : zah l W w < W := by
  have h1 : zah l W w < zsum W (fun _ => 1) := by
    refine zsum_lt (fun i hi => zb_le _) hw ?_
    rw [zb_f (by unfold zahd; omega)]
    omega
  have h2 : zsum W (fun _ => 1) ≤ W := zsum_le1 (fun _ _ => Nat.le_refl _)
  omega
theorem r_ahd {M : ZMem} {l : List (Nat × Nat)} (ho : okL l) (h : lexR l M) {w : Nat} (hw : w < l.length) (x1 : Int32) : zOk (zloop (f_X12_rank_L19 M x1 (zI w)) (zI 0, zI 0)) (fun e => e = zI (zah l l.length w)) := by
  have hl := ho.1
  refine zOk_forQ (fun i s => s.1 = zI (zah l i w) ∧ s.2 = zI i) l.length ?_ ?_ ⟨rfl, rfl⟩
  · rintro i ⟨s1, s2⟩ hi ⟨e1, e2⟩ Q hQ _
    dsimp only at e1 e2
    have t1 := ho.2.2.2 i hi
    have t2 := ho.2.2.2 w hw
    have key : ∀ p : Prop, zb p = zb (zahd l i w) → zOk (f_X12_rank_72_L19 M x1 (zI w) (zI i) (zI (zah l i w)) (zI (zb p))) Q := by
      intro p hp
      unfold f_X12_rank_72_L19
      rw [r_truth, zb_some, zk_bnd, zk_bnd, zk_some]
      refine hQ _ ⟨?_, ?_⟩
      · dsimp only
        show _ = zI ((zsum (i + 1) (fun o => zb (zahd l o w)) : Nat) : Int)
        rw [zsum_s, ← hp]
        by_cases hpp : p
        · rw [if_neg (fun hh => zb_0.mp hh hpp), zb_t hpp, zI_add]
          rfl
        · rw [if_pos (zb_0.mpr hpp), zb_f hpp, zI_add]
          rfl
      · dsimp only
        rw [zI_add]
        exact zI_inj (by omega)
    unfold f_X12_rank_L19 f_X12_rank_67_L19 f_X12_rank_71_L19
    dsimp only
    rw [h.1, e1, e2, if_neg (by simp (disch := omega) only [zk_bind, zk_chk, zk_bnd, zk_some, zlp_l, zlp_r, zb_some, zb_bnd, zI_add, zI_sub, zI_mul, zI_neg, zI_le, zI_lt, zI_eq, zI_ix, zI_inI, Int.toNat_natCast, Int.toNat_add, Int.toNat_mul, true_and, and_true]; omega), zI_inI (by omega) (by omega) (by omega), zb_chk, zI_inI (by omega) (by omega) (by omega), zb_chk, zb_chk, zb_chk, zI_ix (by omega) (by omega), zI_ix (by omega) (by omega), Int.toNat_natCast, Int.toNat_natCast, (h.2 i hi).2.1, (h.2 w hw).2.1]
    by_cases c1 : (zE l w).2 < (zE l i).2
    · rw [if_pos (by simp (disch := omega) only [zk_bind, zk_chk, zk_bnd, zk_some, zlp_l, zlp_r, zb_some, zb_bnd, zI_add, zI_sub, zI_mul, zI_neg, zI_le, zI_lt, zI_eq, zI_ix, zI_inI, Int.toNat_natCast, Int.toNat_add, Int.toNat_mul, true_and, and_true]; omega)]
      have := key True (by rw [zb_t trivial, zb_t (show zahd l i w from Or.inl c1)])
      rw [zb_t trivial] at this
      exact this
    · rw [if_neg (by simp (disch := omega) only [zk_bind, zk_chk, zk_bnd, zk_some, zlp_l, zlp_r, zb_some, zb_bnd, zI_add, zI_sub, zI_mul, zI_neg, zI_le, zI_lt, zI_eq, zI_ix, zI_inI, Int.toNat_natCast, Int.toNat_add, Int.toNat_mul, true_and, and_true]; omega)]
      by_cases c2 : (zE l i).2 = (zE l w).2
      · rw [if_pos (by rw [c2])]
        by_cases c3 : w ≤ i
        · rw [if_pos (by simp (disch := omega) only [zk_bind, zk_chk, zk_bnd, zk_some, zlp_l, zlp_r, zb_some, zb_bnd, zI_add, zI_sub, zI_mul, zI_neg, zI_le, zI_lt, zI_eq, zI_ix, zI_inI, Int.toNat_natCast, Int.toNat_add, Int.toNat_mul, true_and, and_true]; omega)]
          have := key False (by rw [zb_f (fun h => h), zb_f (by unfold zahd; omega)])
          rw [zb_f (fun h => h)] at this
          exact this
        · rw [if_neg (by simp (disch := omega) only [zk_bind, zk_chk, zk_bnd, zk_some, zlp_l, zlp_r, zb_some, zb_bnd, zI_add, zI_sub, zI_mul, zI_neg, zI_le, zI_lt, zI_eq, zI_ix, zI_inI, Int.toNat_natCast, Int.toNat_add, Int.toNat_mul, true_and, and_true]; omega)]
          have := key True (by rw [zb_t trivial, zb_t (show zahd l i w from Or.inr ⟨c2, by omega⟩)])
          rw [zb_t trivial] at this
          exact this
      · rw [if_neg (by simp (disch := omega) only [zk_bind, zk_chk, zk_bnd, zk_some, zlp_l, zlp_r, zb_some, zb_bnd, zI_add, zI_sub, zI_mul, zI_neg, zI_le, zI_lt, zI_eq, zI_ix, zI_inI, Int.toNat_natCast, Int.toNat_add, Int.toNat_mul, true_and, and_true]; omega)]
        have := key False (by rw [zb_f (fun h => h), zb_f (by unfold zahd; omega)])
        rw [zb_f (fun h => h)] at this
        exact this
  · rintro ⟨s1, s2⟩ ⟨e1, e2⟩
    dsimp only at e1 e2
    refine ⟨s1, ?_, e1⟩
    unfold f_X12_rank_L19
    dsimp only
    rw [h.1, e2, if_pos (by simp (disch := omega) only [zk_bind, zk_chk, zk_bnd, zk_some, zlp_l, zlp_r, zb_some, zb_bnd, zI_add, zI_sub, zI_mul, zI_neg, zI_le, zI_lt, zI_eq, zI_ix, zI_inI, Int.toNat_natCast, Int.toNat_add, Int.toNat_mul, true_and, and_true]; omega)]
theorem zp_rank : zPr_rank zRel := by
  rintro M1 M2 a1 ⟨σ, ho, hc, hr⟩
  obtain ⟨a, rfl, l1, u1⟩ := zI_of a1
  have okl := dL_ok ho
  have hW := okl.1
  unfold f_X11_rank f_X12_rank f_X2_rankedWord
  rw [zk_bind]
  refine zOk_mono (k_fs ho hc) (fun C' h => ?_)
  have hs := h.1.2.2.2.2.2.2.1 h.2
  have hlC : lexC (dL σ) C' := hs.2.2.2.1.1
  have hrk : rnkC (dL σ) (dL σ).length C' := hs.2.2.2.1.2.2.2
  rw [c_has2 hlC.1 hW l1 u1, zb_some]
  have ref : ∀ v : Int, (∀ w, w < (dL σ).length → (zah (dL σ) (dL σ).length w : Int) = a → v = w) → ((∀ w, w < (dL σ).length → ¬ (zah (dL σ) (dL σ).length w : Int) = a) → v = -1) → zOk (zbind (f_X12_lays M2) (fun M_1 => zbind (zloop (f_X12_rank_L6 M_1 (zI a)) (zI 0)) (fun e6 => zsel e6 (fun e6a => some (M_1, (zI (-1)))) (fun e6b => some e6b)))) (fun r2 => zI v = r2.2 ∧ zRel C' r2.1) := by
    intro v hv1 hv2
    rw [zk_bind]
    refine zOk_mono (k_ls ho hr) (fun R' h' => ?_)
    have hlR : lexR (dL σ) R' := h'.2.2.2.2.1.1
    have hRel : zRel C' R' := ⟨σ, ho, h.1, h'.1⟩
    rw [zk_bind]
    refine zOk_forQ (fun i s => s = zI i ∧ ∀ w, w < i → ¬ (zah (dL σ) (dL σ).length w : Int) = a) (dL σ).length ?_ ?_ ⟨rfl, fun w hw => absurd hw (Nat.not_lt_zero w)⟩
    · rintro i s hi ⟨rfl, e2⟩ Q hQ hE
      have hz := zah_ltW (l := dL σ) hi
      unfold f_X12_rank_L6
      rw [hlR.1, if_neg (by simp (disch := omega) only [zk_bind, zk_chk, zk_bnd, zk_some, zlp_l, zlp_r, zb_some, zb_bnd, zI_add, zI_sub, zI_mul, zI_neg, zI_le, zI_lt, zI_eq, zI_ix, zI_inI, Int.toNat_natCast, Int.toNat_add, Int.toNat_mul, true_and, and_true]; omega), zk_bind]
      refine zOk_mono (r_ahd okl hlR hi (zI a)) (fun e he => ?_)
      rw [he]
      by_cases hza : (zah (dL σ) (dL σ).length i : Int) = a
      · rw [if_pos (by rw [hza]), zk_some]
        refine hE _ ?_
        show zOk (some (R', zI i)) _
        rw [zk_some]
        exact ⟨by rw [hv1 i hi hza], hRel⟩
      · rw [if_neg (by simp (disch := omega) only [zk_bind, zk_chk, zk_bnd, zk_some, zlp_l, zlp_r, zb_some, zb_bnd, zI_add, zI_sub, zI_mul, zI_neg, zI_le, zI_lt, zI_eq, zI_ix, zI_inI, Int.toNat_natCast, Int.toNat_add, Int.toNat_mul, true_and, and_true]; omega), zk_bnd, zk_some, zI_add]
        refine hQ _ ⟨zI_inj (by omega), fun w hw => ?_⟩
        by_cases hwi : w = i
        · rw [hwi]; exact hza
        · exact e2 w (by omega)
    · rintro s ⟨rfl, e2⟩
      refine ⟨.inl (), ?_, ?_⟩
      · unfold f_X12_rank_L6
        rw [hlR.1, if_pos (by simp (disch := omega) only [zk_bind, zk_chk, zk_bnd, zk_some, zlp_l, zlp_r, zb_some, zb_bnd, zI_add, zI_sub, zI_mul, zI_neg, zI_le, zI_lt, zI_eq, zI_ix, zI_inI, Int.toNat_natCast, Int.toNat_add, Int.toNat_mul, true_and, and_true]; omega)]
      · show zOk (some (R', zI (-1))) _
        rw [zk_some]
        exact ⟨by rw [hv2 e2], hRel⟩
  by_cases h1 : 0 ≤ a ∧ a < (dL σ).length
  · obtain ⟨p, rfl⟩ := Int.eq_ofNat_of_zero_le h1.1
    obtain ⟨w, w1, w2, w3⟩ := hrk p (by omega)
    rw [if_neg (fun hh => zb_0.mp hh h1), zI_inI (by omega) (by omega) (by omega), zb_chk, zI_ix (by omega) (by omega), Int.toNat_natCast, w2, zb_some, zk_some]
    refine ref w (fun v hv1 hv2 => ?_) (fun hn => absurd (by rw [w3]) (hn w w1))
    have := zah_inj w1 hv1 (show zah (dL σ) (dL σ).length w = zah (dL σ) (dL σ).length v by omega)
    rw [this]
  · rw [if_pos (zb_0.mpr h1), zb_some, zk_some]
    refine ref (-1) (fun v hv1 hv2 => ?_) (fun _ => rfl)
    have := zah_ltW (l := dL σ) hv1
    omega
-- read
theorem zrx_r {F : Nat} {s : ZS} (hs : okS F s) {t : Nat} (ht : t < sS s) : ∀ r, r ≤ sm s t → zrx s (4 * t + r) = zrx s (4 * t) + r := by
  intro r
  induction r with
  | zero => intro _; rfl
  | succ r ih =>
    intro hr
    have := (hs.2.1 t ht).2
    rw [← Nat.add_assoc, zrx_e (zex_of ht (by omega) (by omega)), ih (by omega)]
    rfl
theorem zrx_t {F : Nat} {s : ZS} (hs : okS F s) : ∀ t, t ≤ sS s → zrx s (4 * t) = zsum t (sm s) := by
  intro t
  induction t with
  | zero => intro _; rfl
  | succ t ih =>
    intro ht
    have hm := (hs.2.1 t (by omega)).2
    have e : ∀ d, d ≤ 4 - sm s t → zrx s (4 * t + (sm s t + d)) = zsum t (sm s) + sm s t := by
      intro d
      induction d with
      | zero => intro _; rw [Nat.add_zero, zrx_r hs (by omega) _ (Nat.le_refl _), ih (by omega)]
      | succ d ihd =>
        intro hd
        rw [← Nat.add_assoc, ← Nat.add_assoc, zrx_n (by rw [Nat.add_assoc]; exact zex_no (by omega) (by omega)), Nat.add_assoc]
        exact ihd (by omega)
    rw [zsum_s, ← e (4 - sm s t) (Nat.le_refl _), show 4 * t + (sm s t + (4 - sm s t)) = 4 * (t + 1) by omega]
theorem c_rowNo {M : ZMem} {F : Nat} {s : ZS} (hs : okS F s) (h : stonesC s M) {t r : Int} (l1 : -2147483648 ≤ t) (u1 : t ≤ 2147483647) (l2 : -2147483648 ≤ r) (u2 : r ≤ 2147483647) : f_X7_rowNumber M (zI t) (zI r) = some (zI (if (0 ≤ t ∧ t < sS s) ∧ (0 ≤ r ∧ r < sm s t.toNat) then 4 * t + r else -1)) := by
  have hS := hs.1
  unfold f_X7_rowNumber
  by_cases c1 : r < 0
  · rw [if_pos (by simp (disch := omega) only [zk_bind, zk_chk, zk_bnd, zk_some, zlp_l, zlp_r, zb_some, zb_bnd, zI_add, zI_sub, zI_mul, zI_neg, zI_le, zI_lt, zI_eq, zI_ix, zI_inI, Int.toNat_natCast, Int.toNat_add, Int.toNat_mul, true_and, and_true]; omega), if_neg (by omega)]
  · rw [if_neg (by simp (disch := omega) only [zk_bind, zk_chk, zk_bnd, zk_some, zlp_l, zlp_r, zb_some, zb_bnd, zI_add, zI_sub, zI_mul, zI_neg, zI_le, zI_lt, zI_eq, zI_ix, zI_inI, Int.toNat_natCast, Int.toNat_add, Int.toNat_mul, true_and, and_true]; omega)]
    by_cases c2 : 0 ≤ t ∧ t < sS s
    · obtain ⟨t, rfl⟩ := Int.eq_ofNat_of_zero_le c2.1
      have hm := (hs.2.1 t (by omega)).2
      rw [c_rowsOf hs h (t := t) (by omega), zb_some, Int.toNat_natCast]
      by_cases c3 : r < sm s t
      · rw [if_neg (by simp (disch := omega) only [zk_bind, zk_chk, zk_bnd, zk_some, zlp_l, zlp_r, zb_some, zb_bnd, zI_add, zI_sub, zI_mul, zI_neg, zI_le, zI_lt, zI_eq, zI_ix, zI_inI, Int.toNat_natCast, Int.toNat_add, Int.toNat_mul, true_and, and_true]; omega), if_pos ⟨c2, by omega, c3⟩, zI_mul, zI_add]
        exact congrArg some (zI_inj (by omega))
      · rw [if_pos (by simp (disch := omega) only [zk_bind, zk_chk, zk_bnd, zk_some, zlp_l, zlp_r, zb_some, zb_bnd, zI_add, zI_sub, zI_mul, zI_neg, zI_le, zI_lt, zI_eq, zI_ix, zI_inI, Int.toNat_natCast, Int.toNat_add, Int.toNat_mul, true_and, and_true]; omega), if_neg (by omega)]
    · have e0 : f_X7_rowsOf M (zI t) = some (zI 0) := by
        unfold f_X7_rowsOf
        rw [h.1]
        by_cases c3 : t < 0
        · rw [if_pos (by simp (disch := omega) only [zk_bind, zk_chk, zk_bnd, zk_some, zlp_l, zlp_r, zb_some, zb_bnd, zI_add, zI_sub, zI_mul, zI_neg, zI_le, zI_lt, zI_eq, zI_ix, zI_inI, Int.toNat_natCast, Int.toNat_add, Int.toNat_mul, true_and, and_true]; omega)]
        · rw [if_neg (by simp (disch := omega) only [zk_bind, zk_chk, zk_bnd, zk_some, zlp_l, zlp_r, zb_some, zb_bnd, zI_add, zI_sub, zI_mul, zI_neg, zI_le, zI_lt, zI_eq, zI_ix, zI_inI, Int.toNat_natCast, Int.toNat_add, Int.toNat_mul, true_and, and_true]; omega), if_pos (by simp (disch := omega) only [zk_bind, zk_chk, zk_bnd, zk_some, zlp_l, zlp_r, zb_some, zb_bnd, zI_add, zI_sub, zI_mul, zI_neg, zI_le, zI_lt, zI_eq, zI_ix, zI_inI, Int.toNat_natCast, Int.toNat_add, Int.toNat_mul, true_and, and_true]; omega)]
      rw [e0, zb_some, if_pos (by simp (disch := omega) only [zk_bind, zk_chk, zk_bnd, zk_some, zlp_l, zlp_r, zb_some, zb_bnd, zI_add, zI_sub, zI_mul, zI_neg, zI_le, zI_lt, zI_eq, zI_ix, zI_inI, Int.toNat_natCast, Int.toNat_add, Int.toNat_mul, true_and, and_true]; omega), if_neg (fun hh => c2 hh.1)]
theorem zp_read : zPr_read zRel := by
  rintro M1 M2 a1 a2 a3 ⟨σ, ho, hc, hr⟩
  obtain ⟨a, rfl, l1, u1⟩ := zI_of a1
  obtain ⟨b, rfl, l2, u2⟩ := zI_of a2
  obtain ⟨k, rfl, l3, u3⟩ := zI_of a3
  have hs := ho.2.2.1
  have hS := hs.1
  have hRel : zRel M1 M2 := ⟨σ, ho, hc, hr⟩
  have hst := hr.2.2.1
  unfold f_X11_read f_X12_read
  have erow := c_rowNo hs hc.2.1.2.1 l1 u1 l2 u2
  rw [hst.1, zI_sub, r_in l1 u1 (by omega) (by omega) (by omega) (by omega), zb_some]
  by_cases h1 : 0 ≤ a ∧ a < sS (gs σ)
  · obtain ⟨t, rfl⟩ := Int.eq_ofNat_of_zero_le h1.1
    have ht : t < sS (gs σ) := by omega
    have hm := (hs.2.1 t ht).2
    rw [if_neg (c := zI (zb (0 ≤ (t : Int) ∧ (t : Int) ≤ ((sS (gs σ) : Nat) : Int) - 1) : Int) = zI 0) (fun hh => zb_0.mp hh (by omega)), zI_inI (n := 7) (by omega) (by omega) (by omega), zb_chk, zI_ix (by omega) (by omega), Int.toNat_natCast, hst.2.1 t ht, zI_sub, r_in l2 u2 (by omega) (by omega) (by omega) (by omega), zb_some]
    by_cases h2 : 0 ≤ b ∧ b < sm (gs σ) t
    · obtain ⟨r, rfl⟩ := Int.eq_ofNat_of_zero_le h2.1
      have hr' : r < sm (gs σ) t := by omega
      have hex : zex (gs σ) (4 * t + r) := zex_of ht hr' (by omega)
      have hq24 : 4 * t + r < 24 := zex_lt hs hex
      have hrl := zRL_le hs (4 * t + r)
      rw [Int.toNat_natCast, if_pos ⟨h1, h2⟩] at erow
      rw [erow, zb_some, if_neg (by simp (disch := omega) only [zk_bind, zk_chk, zk_bnd, zk_some, zlp_l, zlp_r, zb_some, zb_bnd, zI_add, zI_sub, zI_mul, zI_neg, zI_le, zI_lt, zI_eq, zI_ix, zI_inI, Int.toNat_natCast, Int.toNat_add, Int.toNat_mul, true_and, and_true]; omega), if_neg (c := zI (zb (0 ≤ (r : Int) ∧ (r : Int) ≤ ((sm (gs σ) t : Nat) : Int) - 1) : Int) = zI 0) (fun hh => zb_0.mp hh (by omega)), show (4 * (t : Int) + (r : Int)) = ((4 * t + r : Nat) : Int) by omega, zk_bind]
      refine zOk_mono (k_fs ho hc) (fun C' h => ?_)
      have hrg := (h.1.2.2.2.2.2.2.1 h.2).2.2.1
      have cls : (if zI k = zI (-1) then zbind (f_X6_lengthOf C' (zI ((4 * t + r : Nat) : Int))) (fun r_34 => some (C', r_34)) else zbind (f_X6_signAt C' (zI ((4 * t + r : Nat) : Int)) (zI k)) (fun r_47 => some (C', r_47))) = some (C', zI (if k = -1 then (zRL (gs σ) (4 * t + r) : Int) else if 0 ≤ k ∧ k < zRL (gs σ) (4 * t + r) then (dR σ (4 * t + r) k.toNat : Int) else -1)) := by
        by_cases ck : k = -1
        · rw [if_pos (by rw [ck]), c_lengthOf6 hrg hq24, zb_some, if_pos ck]
        · rw [if_neg (by simp (disch := omega) only [zk_bind, zk_chk, zk_bnd, zk_some, zlp_l, zlp_r, zb_some, zb_bnd, zI_add, zI_sub, zI_mul, zI_neg, zI_le, zI_lt, zI_eq, zI_ix, zI_inI, Int.toNat_natCast, Int.toNat_add, Int.toNat_mul, true_and, and_true]; omega), c_signAt6 (dR_ok ho) hrg hq24 k l3 u3, zb_some, if_neg ck]
      rw [cls, zk_some, zk_bind]
      refine zOk_mono (k_ls ho hr) (fun R' h' => ?_)
      have hrh : rowsH (gs σ) (dR σ) R' := h'.2.2.2.1
      have hst' := h'.1.2.2.1
      have hRel' : zRel C' R' := ⟨σ, ho, h.1, h'.1⟩
      obtain ⟨i1, i2⟩ := zrx_in hq24 hex
      have b24 := zrx_le (gs σ) 24
      have hb1 : R'.1 13 (zrx (gs σ) (4 * t + r)) = zI (zbg (gs σ) (4 * t + r)) := hrh.2.1 _ (by omega)
      have hb2 : R'.1 13 (zrx (gs σ) (4 * t + r) + 1) = zI ((zbg (gs σ) (4 * t + r) + zRL (gs σ) (4 * t + r) : Nat) : Int) := by rw [← i2, hrh.2.1 (4 * t + r + 1) (by omega)]; rfl
      have hb3 := zbg240 hs hq24
      rw [zk_bind]
      refine zOk_forQ (fun i x => x.1 = zI ((r + zsum i (sm (gs σ)) : Nat) : Int) ∧ x.2 = zI i) t ?_ ?_ ⟨rfl, rfl⟩
      · rintro i ⟨x1, x2⟩ hi ⟨e1, e2⟩ Q hQ _
        dsimp only at e1 e2
        unfold f_X12_read_L42
        dsimp only
        rw [e1, e2, if_neg (by simp (disch := omega) only [zk_bind, zk_chk, zk_bnd, zk_some, zlp_l, zlp_r, zb_some, zb_bnd, zI_add, zI_sub, zI_mul, zI_neg, zI_le, zI_lt, zI_eq, zI_ix, zI_inI, Int.toNat_natCast, Int.toNat_add, Int.toNat_mul, true_and, and_true]; omega), zI_inI (by omega) (by omega) (by omega), zb_chk, zI_ix (by omega) (by omega), Int.toNat_natCast, hst'.2.1 i (by omega), zk_bnd, zk_bnd, zk_some, zI_add, zI_add]
        exact hQ _ ⟨by dsimp only; rw [zsum_s]; exact zI_inj (by omega), zI_inj (by omega)⟩
      · rintro ⟨x1, x2⟩ ⟨e1, e2⟩
        dsimp only at e1 e2
        refine ⟨x1, ?_, ?_⟩
        · unfold f_X12_read_L42
          dsimp only
          rw [e2, if_pos (by simp (disch := omega) only [zk_bind, zk_chk, zk_bnd, zk_some, zlp_l, zlp_r, zb_some, zb_bnd, zI_add, zI_sub, zI_mul, zI_neg, zI_le, zI_lt, zI_eq, zI_ix, zI_inI, Int.toNat_natCast, Int.toNat_add, Int.toNat_mul, true_and, and_true]; omega)]
        · have ez : r + zsum t (sm (gs σ)) = zrx (gs σ) (4 * t + r) := by
            rw [zrx_r hs ht r (by omega), zrx_t hs t (by omega)]
            omega
          rw [e1, ez, zI_add, zI_inI (by omega) (by omega) (by omega), zb_chk, zI_inI (by omega) (by omega) (by omega), zb_chk, zk_bnd, zI_ix (by omega) (by omega), zI_ix (by omega) (by omega), Int.toNat_natCast, show ((zrx (gs σ) (4 * t + r) : Int) + 1).toNat = zrx (gs σ) (4 * t + r) + 1 by omega, hb1, hb2, zI_sub, show (((zbg (gs σ) (4 * t + r) + zRL (gs σ) (4 * t + r) : Nat) : Int) - ((zbg (gs σ) (4 * t + r) : Nat) : Int)) = ((zRL (gs σ) (4 * t + r) : Nat) : Int) by omega]
          by_cases ck : k = -1
          · rw [if_pos (by rw [ck]), zk_some, if_pos ck]
            exact ⟨rfl, hRel'⟩
          · rw [if_neg (c := zI k = zI (-1)) (by simp (disch := omega) only [zk_bind, zk_chk, zk_bnd, zk_some, zlp_l, zlp_r, zb_some, zb_bnd, zI_add, zI_sub, zI_mul, zI_neg, zI_le, zI_lt, zI_eq, zI_ix, zI_inI, Int.toNat_natCast, Int.toNat_add, Int.toNat_mul, true_and, and_true]; omega), if_neg ck, zI_sub, r_in l3 u3 (by omega) (by omega) (by omega) (by omega), zb_some]
            by_cases ck2 : 0 ≤ k ∧ k < zRL (gs σ) (4 * t + r)
            · obtain ⟨k, rfl⟩ := Int.eq_ofNat_of_zero_le ck2.1
              rw [if_neg (c := zI (zb (0 ≤ (k : Int) ∧ (k : Int) ≤ ((zRL (gs σ) (4 * t + r) : Nat) : Int) - 1) : Int) = zI 0) (fun hh => zb_0.mp hh (by omega)), zb_chk, zI_add, zI_inI (by omega) (by omega) (by omega), zb_chk, zI_ix (by omega) (by omega), show (((zbg (gs σ) (4 * t + r) : Nat) : Int) + (k : Int)).toNat = zbg (gs σ) (4 * t + r) + k by omega, hrh.2.2 _ k hq24 (by omega), zk_some, if_pos ck2]
              exact ⟨rfl, hRel'⟩
            · rw [if_pos (c := zI (zb (0 ≤ k ∧ k ≤ ((zRL (gs σ) (4 * t + r) : Nat) : Int) - 1) : Int) = zI 0) (zb_0.mpr (by omega)), if_neg ck2, zk_some]
              exact ⟨rfl, hRel'⟩
    · rw [Int.toNat_natCast, if_neg (fun hh => h2 hh.2)] at erow
      rw [erow, zb_some, if_pos rfl, if_pos (zb_0.mpr (by omega)), zk_some, zk_some]
      exact ⟨rfl, hRel⟩
  · rw [if_neg (fun hh => h1 hh.1)] at erow
    rw [erow, zb_some, if_pos rfl, if_pos (zb_0.mpr (by omega)), zk_some, zk_some]
    exact ⟨rfl, hRel⟩
