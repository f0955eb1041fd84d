/-! ===== calls that tell: settings and ties ===== deps: 97.zk.acts -/
theorem zisB_c {x : Int32} (h : zisB x = true) : ∃ n : Nat, n ≤ 1 ∧ x = zI n := by
  unfold zisB at h
  rw [Bool.or_eq_true, decide_eq_true_eq, decide_eq_true_eq] at h
  rcases h with h | h
  · exact ⟨0, by omega, h⟩
  · exact ⟨1, by omega, h⟩
theorem okT_hk {σ : ZT} (ho : okT σ) : okH (gF σ) (gh σ) := ho.2.2.2.2.2.1 _ (Nat.le_refl _)
theorem zisB0 : zisB (zI 0) = true := by decide
theorem zisB1 : zisB (zI 1) = true := by decide
theorem zisB_n {n : Nat} (h : n ≤ 1) : zisB (zI n) = true := by
  rcases (show n = 0 ∨ n = 1 by omega) with rfl | rfl <;> decide
theorem clueC_cg {h h' : Nat → Int} {M : ZMem} (e3 : h' 3 = h 3) (eg : ∀ f, f < 20 → h' (4 + f) = h (4 + f)) (ec : ∀ k : Nat, (k : Int) < h 3 → h' (424 + 3 * k) = h (424 + 3 * k) ∧ h' (425 + 3 * k) = h (425 + 3 * k) ∧ h' (426 + 3 * k) = h (426 + 3 * k)) (hc : clueC h M) : clueC h' M := by
  refine ⟨by rw [e3]; exact hc.1, fun k hk => ?_, fun f hf => by rw [eg f hf]; exact hc.2.2.1 f hf, ?_⟩
  · rw [e3] at hk
    rw [(ec k hk).1, (ec k hk).2.1, (ec k hk).2.2]
    exact hc.2.1 k hk
  · rw [hc.2.2.2]
    unfold zguess
    rw [zsum_cg (fun f hf => by rw [← eg f hf])]
theorem setC_cg {h h' : Nat → Int} {M : ZMem} (e : zsame h h') (hc : setC h M) : setC h' M := ⟨by rw [e.1]; exact hc.1, by rw [e.2.1]; exact hc.2.1, by rw [e.2.2.1]; exact hc.2.2.1, fun k hk => by rw [e.2.2.2 k hk]; exact hc.2.2.2 k hk⟩
theorem handR_set {h : Nat → Int} {M : ZMem} {j : Nat} {a : Int} (hh : handR h M) : handR (fun i => if i = j then a else h i) (zstI M 9 j (zI a)) := by
  intro k hk
  dsimp only
  by_cases hkj : k = j
  · rw [hkj, zm_Is, if_pos rfl]
  · rw [zm_In _ _ _ _ hkj, if_neg hkj]
    exact hh k hk
theorem okH_set {F : Nat} {h : Nat → Int} {j : Nat} {a : Int} (hk : okH F h) (hj : j < 3) (ha : (j = 0 → 0 ≤ a ∧ a ≤ 25) ∧ (j = 1 → 0 ≤ a ∧ a ≤ 3) ∧ (j = 2 → 1 ≤ a ∧ a ≤ 9)) : okH F (fun i => if i = j then a else h i) := by
  obtain ⟨h0, h1, h2, h3, h4, h5, h6⟩ := hk
  refine ⟨?_, ?_, ?_, ?_, fun f hf => ?_, fun k hk => ?_, fun k hk => ?_⟩
  · dsimp only
    split <;> omega
  · dsimp only
    split <;> omega
  · dsimp only
    split <;> omega
  · dsimp only
    rw [if_neg (by omega)]
    exact h3
  · dsimp only
    rw [if_neg (by omega)]
    exact h4 f hf
  · dsimp only
    rw [if_neg (by omega)]
    exact h5 k hk
  · dsimp only at hk ⊢
    rw [if_neg (by omega)] at hk
    rw [if_neg (by omega), if_neg (by omega), if_neg (by omega)]
    exact h6 k hk
theorem zset {σ : ZT} {C R : ZMem} (ho : okT σ) (hc : relC σ C) (hr : relR σ R) {j : Nat} (hj : j < 3) {lo hi a : Int} (la : -2147483648 ≤ a) (ua : a ≤ 2147483647) (hlo : 0 ≤ lo) (hlo' : lo ≤ 100) (hhi : 0 ≤ hi) (hhi' : hi ≤ 100) (hg : 0 ≤ gh σ j ∧ gh σ j ≤ 100) (hk : lo ≤ a → a ≤ hi → okH (gF σ) (fun i => if i = j then a else gh σ i)) : zOk (f_X11_changeSetting C (zI j) (zI a) (zI lo) (zI hi)) (fun r1 => zOk (f_X12_changes R (zI j) (zI a) (zI lo) (zI hi)) (fun r2 => r1.2 = r2.2 ∧ zRel r1.1 r2.1)) := by
  have hsC := hc.2.1.2.2.1
  have e21 : C.1 21 j = zI (gh σ j) := by
    rcases (show j = 0 ∨ j = 1 ∨ j = 2 by omega) with rfl | rfl | rfl
    · exact hsC.1
    · exact hsC.2.1
    · exact hsC.2.2.1
  have e9 : R.1 9 j = zI (gh σ j) := hr.2.2.2.2.1 j (by omega)
  have hRel : zRel C R := ⟨σ, ho, hc, hr⟩
  unfold f_X11_changeSetting f_X12_changes
  rw [c_setting j hj, zb_some, e21, r_in la ua (by omega) (by omega) (by omega) (by omega), zb_some]
  by_cases h1 : lo ≤ a ∧ a ≤ hi
  · rw [if_neg (c := zI a < zI lo) (by simp (disch := omega) only [zk_bind, zk_chk, zk_bnd, zk_some, zlp_l, zlp_r, zb_some, zb_bnd, zI_add, zI_sub, zI_mul, zI_neg, zI_le, zI_lt, zI_eq, zI_ix, zI_inI, Int.toNat_natCast, Int.toNat_add, Int.toNat_mul, true_and, and_true]; omega), if_neg (c := zI hi < zI a) (by simp (disch := omega) only [zk_bind, zk_chk, zk_bnd, zk_some, zlp_l, zlp_r, zb_some, zb_bnd, zI_add, zI_sub, zI_mul, zI_neg, zI_le, zI_lt, zI_eq, zI_ix, zI_inI, Int.toNat_natCast, Int.toNat_add, Int.toNat_mul, true_and, and_true]; omega), if_neg (c := zI (zb (lo ≤ a ∧ a ≤ hi) : Int) = zI 0) (fun hh => zb_0.mp hh h1), zI_inI (n := 460) (by omega) (by omega) (by omega), zb_chk, zI_ix (by omega) (by omega), Int.toNat_natCast, e9]
    by_cases he : a = gh σ j
    · rw [if_pos (by rw [he]), zk_some, if_pos (by rw [he]), zk_some]
      exact ⟨rfl, hRel⟩
    · have hu : zund j j (gh σ j) (fun i => if i = j then a else gh σ i) (gh σ) := Or.inl ⟨by omega, by omega, rfl, fun i hi => by
        by_cases hij : i = j
        · rw [hij, if_pos rfl]
        · rw [if_neg (by omega)]
          dsimp only
          rw [if_neg hij]⟩
      rw [if_neg (c := zI a = zI (gh σ j)) (by simp (disch := omega) only [zk_bind, zk_chk, zk_bnd, zk_some, zlp_l, zlp_r, zb_some, zb_bnd, zI_add, zI_sub, zI_mul, zI_neg, zI_le, zI_lt, zI_eq, zI_ix, zI_inI, Int.toNat_natCast, Int.toNat_add, Int.toNat_mul, true_and, and_true]; omega), if_neg (c := zI (gh σ j) = zI a) (by simp (disch := omega) only [zk_bind, zk_chk, zk_bnd, zk_some, zlp_l, zlp_r, zb_some, zb_bnd, zI_add, zI_sub, zI_mul, zI_neg, zI_le, zI_lt, zI_eq, zI_ix, zI_inI, Int.toNat_natCast, Int.toNat_add, Int.toNat_mul, true_and, and_true]; omega)]
      unfold f_X1_set
      rw [if_neg (by simp (disch := omega) only [zk_bind, zk_chk, zk_bnd, zk_some, zlp_l, zlp_r, zb_some, zb_bnd, zI_add, zI_sub, zI_mul, zI_neg, zI_le, zI_lt, zI_eq, zI_ix, zI_inI, Int.toNat_natCast, Int.toNat_add, Int.toNat_mul, true_and, and_true]; omega), if_neg (by simp (disch := omega) only [zk_bind, zk_chk, zk_bnd, zk_some, zlp_l, zlp_r, zb_some, zb_bnd, zI_add, zI_sub, zI_mul, zI_neg, zI_le, zI_lt, zI_eq, zI_ix, zI_inI, Int.toNat_natCast, Int.toNat_add, Int.toNat_mul, true_and, and_true]; omega), zI_inI (n := 3) (by omega) (by omega) (by omega), zb_chk, zI_ix (by omega) (by omega), Int.toNat_natCast, e21, zk_bind, zk_bind]
      refine zOk_mono (c_note (P := gP σ) (H := gH σ) ho.2.2.2.2.1 hc.2.2.2.1 hu) (fun M1 k1 => ?_)
      rw [zb_chk, zk_bnd, zk_some, zk_bnd, zk_some, zk_bind]
      refine zOk_mono (r_remembers (P := gP σ) (H := gH σ) (fun i => if i = j then a else gh σ i) ho.2.2.2.2.1 hr.2.2.2.2.1 hr.2.2.2.2.2.1) (fun R1 k2 => ?_)
      rw [zb_chk, zk_bnd, zb_chk, zk_bnd, zk_some]
      have hpC : zP zWact C (zstI (zstI M1 21 j (zI a)) 0 13 (zI 1)) := zP_I (zP_I (zP_mono k1.2 (fun a k ha => by unfold zWact at ha; unfold zWnt; simp at ha ⊢; omega)) rfl) rfl
      have hh1 : handR (gh σ) R1 := handR_x (fun k => k2.2.2.1 9 k rfl) hr.2.2.2.2.1
      refine ⟨?_, zNw σ (fun i => if i = j then a else gh σ i), okT_n ho (hk h1.1 h1.2), relC_n hpC.1 hpC.2 ?_ ?_ ?_ ?_ (Or.inl (zm_Is _ _ _ _)) hc, relR_n (zP_I (zP_mono k2.2.2 (fun a k ha => ?_)) rfl) (handR_set hh1) (pastR_x ?_ (fun k => ?_) k2.1) ?_ hr⟩
      · dsimp only
        rw [hh1 j (by omega)]
      · have e : ∀ i, i < 3 → (zstI (zstI M1 21 j (zI a)) 0 13 (zI 1)).1 21 i = zI (if i = j then a else gh σ i) := by
          intro i hi
          rw [zm_Iq _ _ _ _ (by decide)]
          by_cases hij : i = j
          · rw [hij, zm_Is, if_pos rfl]
          · rw [zm_In _ _ _ _ hij, if_neg hij, k1.2.1 21 i rfl]
            rcases (show i = 0 ∨ i = 1 ∨ i = 2 by omega) with rfl | rfl | rfl
            · exact hsC.1
            · exact hsC.2.1
            · exact hsC.2.2.1
        refine ⟨e 0 (by omega), e 1 (by omega), e 2 (by omega), fun k hk => ?_⟩
        rw [zm_Iq _ _ _ _ (by decide), zm_Iq _ _ _ _ (by decide), k1.2.1 22 k rfl]
        dsimp only
        rw [if_neg (by omega)]
        exact hsC.2.2.2 k hk
      · refine clueC_cg (h := gh σ) ?_ (fun f hf => ?_) (fun k hk => ⟨?_, ?_, ?_⟩) (clueC_x (fun a k hk => ?_) hc.2.1.2.2.2.1)
        · exact if_neg (by omega)
        · exact if_neg (by omega)
        · exact if_neg (by omega)
        · exact if_neg (by omega)
        · exact if_neg (by omega)
        · unfold dclueC at hk
          rw [zm_I, if_neg (by simp at hk; omega), zm_I, if_neg (by simp at hk; omega)]
          exact k1.2.1 a k (by unfold zWnt; simp at hk ⊢; omega)
      · exact actsC_x (by rw [zm_Iq _ _ _ _ (by decide), zm_Iq _ _ _ _ (by decide)]) (fun a k ha => by rw [zm_Iq _ _ _ _ (by omega), zm_Iq _ _ _ _ (by omega)]) k1.1
      · rw [zm_In _ _ _ _ (by decide), zm_Iq _ _ _ _ (by decide), k1.2.1 0 14 rfl]
        exact hc.2.2.2.2.2.1.2.1
      · simp at ha ⊢
        exact ha.2
      · rw [zm_Iq _ _ _ _ (by decide)]
      · rw [zm_Iq _ _ _ _ (by decide)]
      · rw [zm_Iq _ _ _ _ (by decide)]
        exact k2.2.1
  · rw [if_pos (c := zI (zb (lo ≤ a ∧ a ≤ hi) : Int) = zI 0) (zb_0.mpr h1)]
    by_cases h2 : a < lo
    · rw [if_pos (by simp (disch := omega) only [zk_bind, zk_chk, zk_bnd, zk_some, zlp_l, zlp_r, zb_some, zb_bnd, zI_add, zI_sub, zI_mul, zI_neg, zI_le, zI_lt, zI_eq, zI_ix, zI_inI, Int.toNat_natCast, Int.toNat_add, Int.toNat_mul, true_and, and_true]; omega), zk_some, zk_some]
      exact ⟨rfl, hRel⟩
    · rw [if_neg (by simp (disch := omega) only [zk_bind, zk_chk, zk_bnd, zk_some, zlp_l, zlp_r, zb_some, zb_bnd, zI_add, zI_sub, zI_mul, zI_neg, zI_le, zI_lt, zI_eq, zI_ix, zI_inI, Int.toNat_natCast, Int.toNat_add, Int.toNat_mul, true_and, and_true]; omega), if_pos (by simp (disch := omega) only [zk_bind, zk_chk, zk_bnd, zk_some, zlp_l, zlp_r, zb_some, zb_bnd, zI_add, zI_sub, zI_mul, zI_neg, zI_le, zI_lt, zI_eq, zI_ix, zI_inI, Int.toNat_natCast, Int.toNat_add, Int.toNat_mul, true_and, and_true]; omega), zk_some, zk_some]
      exact ⟨rfl, hRel⟩
theorem zp_loose : zPr_loose zRel := by
  rintro M1 M2 a1 ⟨σ, ho, hc, hr⟩
  obtain ⟨a, rfl, l1, u1⟩ := zI_of a1
  have hk := okT_hk ho
  unfold f_X11_loose f_X12_loose
  rw [zk_bind]
  refine zOk_mono (zset ho hc hr (j := 0) (by omega) (lo := 0) (hi := 25) l1 u1 (by omega) (by omega) (by omega) (by omega) ⟨hk.1.1, by have := hk.1; omega⟩ (fun h1 h2 => okH_set hk (by omega) ⟨fun _ => ⟨h1, h2⟩, by omega, by omega⟩)) (fun r1 h => ?_)
  rw [zk_some, zk_bind]
  refine zOk_mono h (fun r2 h => ?_)
  rw [zk_some]
  exact h
theorem zp_way : zPr_way zRel := by
  rintro M1 M2 a1 ⟨σ, ho, hc, hr⟩
  obtain ⟨a, rfl, l1, u1⟩ := zI_of a1
  have hk := okT_hk ho
  unfold f_X11_way f_X12_way
  rw [zk_bind]
  refine zOk_mono (zset ho hc hr (j := 1) (by omega) (lo := 0) (hi := 3) l1 u1 (by omega) (by omega) (by omega) (by omega) ⟨hk.2.1.1, by have := hk.2.1; omega⟩ (fun h1 h2 => okH_set hk (by omega) ⟨by omega, fun _ => ⟨h1, h2⟩, by omega⟩)) (fun r1 h => ?_)
  rw [zk_some, zk_bind]
  refine zOk_mono h (fun r2 h => ?_)
  rw [zk_some]
  exact h
theorem zp_rise : zPr_rise zRel := by
  rintro M1 M2 a1 ⟨σ, ho, hc, hr⟩
  obtain ⟨a, rfl, l1, u1⟩ := zI_of a1
  have hk := okT_hk ho
  unfold f_X11_rise f_X12_rise
  rw [zk_bind]
  refine zOk_mono (zset ho hc hr (j := 2) (by omega) (lo := 1) (hi := 9) l1 u1 (by omega) (by omega) (by omega) (by omega) ⟨by have := hk.2.2.1; omega, by have := hk.2.2.1; omega⟩ (fun h1 h2 => okH_set hk (by omega) ⟨by omega, by omega, fun _ => ⟨h1, h2⟩⟩)) (fun r1 h => ?_)
  rw [zk_some, zk_bind]
  refine zOk_mono h (fun r2 h => ?_)
  rw [zk_some]
  exact h
-- ties
theorem c_tiePlace {M : ZMem} {a b : Nat} (ha : a < 20) (hb : b < 20) (hab : a ≠ b) : f_X1_tiePlace M (zI a) (zI b) = some (zI ((20 * min a b + max a b : Nat) : Int)) := by
  unfold f_X1_tiePlace f_X1_tiePlace_25
  rw [if_neg (by simp (disch := omega) only [zk_bind, zk_chk, zk_bnd, zk_some, zlp_l, zlp_r, zb_some, zb_bnd, zI_add, zI_sub, zI_mul, zI_neg, zI_le, zI_lt, zI_eq, zI_ix, zI_inI, Int.toNat_natCast, Int.toNat_add, Int.toNat_mul, true_and, and_true]; omega), if_neg (by simp (disch := omega) only [zk_bind, zk_chk, zk_bnd, zk_some, zlp_l, zlp_r, zb_some, zb_bnd, zI_add, zI_sub, zI_mul, zI_neg, zI_le, zI_lt, zI_eq, zI_ix, zI_inI, Int.toNat_natCast, Int.toNat_add, Int.toNat_mul, true_and, and_true]; omega), if_neg (by simp (disch := omega) only [zk_bind, zk_chk, zk_bnd, zk_some, zlp_l, zlp_r, zb_some, zb_bnd, zI_add, zI_sub, zI_mul, zI_neg, zI_le, zI_lt, zI_eq, zI_ix, zI_inI, Int.toNat_natCast, Int.toNat_add, Int.toNat_mul, true_and, and_true]; omega), if_neg (by simp (disch := omega) only [zk_bind, zk_chk, zk_bnd, zk_some, zlp_l, zlp_r, zb_some, zb_bnd, zI_add, zI_sub, zI_mul, zI_neg, zI_le, zI_lt, zI_eq, zI_ix, zI_inI, Int.toNat_natCast, Int.toNat_add, Int.toNat_mul, true_and, and_true]; omega), if_neg (by decide)]
  rcases Nat.lt_or_gt_of_ne hab with hc | hc
  · rw [if_neg (by simp (disch := omega) only [zk_bind, zk_chk, zk_bnd, zk_some, zlp_l, zlp_r, zb_some, zb_bnd, zI_add, zI_sub, zI_mul, zI_neg, zI_le, zI_lt, zI_eq, zI_ix, zI_inI, Int.toNat_natCast, Int.toNat_add, Int.toNat_mul, true_and, and_true]; omega), if_pos (by simp (disch := omega) only [zk_bind, zk_chk, zk_bnd, zk_some, zlp_l, zlp_r, zb_some, zb_bnd, zI_add, zI_sub, zI_mul, zI_neg, zI_le, zI_lt, zI_eq, zI_ix, zI_inI, Int.toNat_natCast, Int.toNat_add, Int.toNat_mul, true_and, and_true]; omega), zI_mul, zI_add]
    exact congrArg some (zI_inj (by omega))
  · rw [if_pos (by simp (disch := omega) only [zk_bind, zk_chk, zk_bnd, zk_some, zlp_l, zlp_r, zb_some, zb_bnd, zI_add, zI_sub, zI_mul, zI_neg, zI_le, zI_lt, zI_eq, zI_ix, zI_inI, Int.toNat_natCast, Int.toNat_add, Int.toNat_mul, true_and, and_true]; omega), if_neg (by simp (disch := omega) only [zk_bind, zk_chk, zk_bnd, zk_some, zlp_l, zlp_r, zb_some, zb_bnd, zI_add, zI_sub, zI_mul, zI_neg, zI_le, zI_lt, zI_eq, zI_ix, zI_inI, Int.toNat_natCast, Int.toNat_add, Int.toNat_mul, true_and, and_true]; omega), zI_mul, zI_add]
    exact congrArg some (zI_inj (by omega))
theorem okH_tie' {F : Nat} {h : Nat → Int} {T : Nat} {v : Int} (hk : okH F h) (hT : T < 400) (hv : 0 ≤ v ∧ v ≤ 2) : okH F (fun i => if i = 24 + T then v else h i) := by
  obtain ⟨h0, h1, h2, h3, h4, h5, h6⟩ := hk
  refine ⟨?_, ?_, ?_, ?_, fun f hf => ?_, fun k hk => ?_, fun k hk => ?_⟩
  · dsimp only; rw [if_neg (by omega)]; exact h0
  · dsimp only; rw [if_neg (by omega)]; exact h1
  · dsimp only; rw [if_neg (by omega)]; exact h2
  · dsimp only; rw [if_neg (by omega)]; exact h3
  · dsimp only; rw [if_neg (by omega)]; exact h4 f hf
  · dsimp only
    split
    · exact hv
    · exact h5 k hk
  · dsimp only at hk ⊢
    rw [if_neg (by omega)] at hk
    rw [if_neg (by omega), if_neg (by omega), if_neg (by omega)]
    exact h6 k hk
theorem zb_sel {α : Type} {p : Prop} {inst : Decidable p} (f : Int32 → α) : @ite _ p inst (f (zI 1)) (f (zI 0)) = f (zI (zb p : Int)) := by
  by_cases h : p
  · rw [if_pos h, zb_t h]; rfl
  · rw [if_neg h, zb_f h]; rfl
theorem zbit_or1 {v : Int32} (h : zbit v) : v ||| zI 1 = zI 1 := by rcases h with rfl | rfl <;> decide
theorem zbit_or0 {v : Int32} (h : zbit v) : v ||| zI 0 = v ∧ zisB v = true := by rcases h with rfl | rfl <;> decide
theorem ztie {σ : ZT} {C R : ZMem} (ho : okT σ) (hc : relC σ C) (hr : relR σ R) {kind is : Nat} (hkd : 1 ≤ kind ∧ kind ≤ 2) (his : is ≤ 1) {a b : Int} (l1 : -2147483648 ≤ a) (u1 : a ≤ 2147483647) (l2 : -2147483648 ≤ b) (u2 : b ≤ 2147483647) : zOk (f_X11_changeTie C (zI a) (zI b) (zI kind) (zI is)) (fun r1 => zOk (f_X12_tellsTwo R (zI a) (zI b) (zI kind) (zI is)) (fun r2 => r1.2 = r2.2 ∧ zisB r1.2 = true ∧ zRel r1.1 r2.1)) := by
  have hF := ho.2.1
  have hRel : zRel C R := ⟨σ, ho, hc, hr⟩
  have hk := okT_hk ho
  have hsC := hc.2.1.2.2.1
  have hbit := hc.2.2.2.2.2.1.1
  unfold f_X11_changeTie f_X12_tellsTwo
  rw [c_has hc.2.1.1.2.1 hF _ l1 u1, c_has hc.2.1.1.2.1 hF _ l2 u2, r_isForm hr.2.1.2.1 hF _ l1 u1, r_isForm hr.2.1.2.1 hF _ l2 u2, zb_some, zb_some, zb_some, zb_some]
  by_cases h1 : 0 ≤ a ∧ a < gF σ
  · rw [if_neg (fun hh => zb_0.mp hh h1), if_neg (c := zI (zb (0 ≤ a ∧ a < (gF σ : Int)) : Int) = zI 0) (fun hh => zb_0.mp hh h1)]
    by_cases h2 : 0 ≤ b ∧ b < gF σ
    · rw [if_neg (fun hh => zb_0.mp hh h2), if_neg (c := zI (zb (0 ≤ b ∧ b < (gF σ : Int)) : Int) = zI 0) (fun hh => zb_0.mp hh h2)]
      by_cases h3 : a = b
      · rw [if_pos (by rw [h3]), if_pos (by rw [h3]), zk_some, zk_some]
        exact ⟨rfl, zisB0, hRel⟩
      · obtain ⟨a, rfl⟩ := Int.eq_ofNat_of_zero_le h1.1
        obtain ⟨b, rfl⟩ := Int.eq_ofNat_of_zero_le h2.1
        have ha : a < 20 := by omega
        have hb : b < 20 := by omega
        have hab : a ≠ b := by omega
        rw [if_neg (by simp (disch := omega) only [zk_bind, zk_chk, zk_bnd, zk_some, zlp_l, zlp_r, zb_some, zb_bnd, zI_add, zI_sub, zI_mul, zI_neg, zI_le, zI_lt, zI_eq, zI_ix, zI_inI, Int.toNat_natCast, Int.toNat_add, Int.toNat_mul, true_and, and_true]; omega), if_neg (by simp (disch := omega) only [zk_bind, zk_chk, zk_bnd, zk_some, zlp_l, zlp_r, zb_some, zb_bnd, zI_add, zI_sub, zI_mul, zI_neg, zI_le, zI_lt, zI_eq, zI_ix, zI_inI, Int.toNat_natCast, Int.toNat_add, Int.toNat_mul, true_and, and_true]; omega)]
        unfold f_X1_tellTie
        rw [c_tiePlace ha hb hab, r_twoAt R ha hb hab, zb_some, zb_some, Nat.add_assoc]
        have hT : 20 * min a b + max a b < 400 := by omega
        generalize hTT : 20 * min a b + max a b = T at hT
        have hkT := hk.2.2.2.2.2.1 T hT
        rw [if_neg (by simp (disch := omega) only [zk_bind, zk_chk, zk_bnd, zk_some, zlp_l, zlp_r, zb_some, zb_bnd, zI_add, zI_sub, zI_mul, zI_neg, zI_le, zI_lt, zI_eq, zI_ix, zI_inI, Int.toNat_natCast, Int.toNat_add, Int.toNat_mul, true_and, and_true]; omega), if_neg (by simp (disch := omega) only [zk_bind, zk_chk, zk_bnd, zk_some, zlp_l, zlp_r, zb_some, zb_bnd, zI_add, zI_sub, zI_mul, zI_neg, zI_le, zI_lt, zI_eq, zI_ix, zI_inI, Int.toNat_natCast, Int.toNat_add, Int.toNat_mul, true_and, and_true]; omega), zI_inI (n := 400) (by omega) (by omega) (by omega), zb_chk, zI_ix (by omega) (by omega), Int.toNat_natCast, hsC.2.2.2 T hT, zI_inI (n := 460) (by omega) (by omega) (by omega), zb_chk, zI_ix (by omega) (by omega), Int.toNat_natCast, hr.2.2.2.2.1 (24 + T) (by omega), zb_sel (fun v => f_X1_tellTie_38 C (zI kind) (zI is) (zI T) v), zb_sel (fun v => f_X12_tellsTwo_40 R (zI a) (zI b) (zI kind) (zI is) v)]
        have ez : zb (zI (gh σ (24 + T)) = zI kind) = zb (gh σ (24 + T) = kind) := zb_iff (by rw [zI_eq (by omega) (by omega) (by omega) (by omega)])
        rw [ez]
        unfold f_X1_tellTie_38 f_X12_tellsTwo_40
        have hzb := zb_le (gh σ (24 + T) = kind)
        by_cases he : zb (gh σ (24 + T) = kind) = is
        · rw [if_pos (by rw [he]), if_pos (by rw [he]), zb_some]
          dsimp only
          rw [(zbit_or0 hbit).1, (zbit_or0 hbit).2, zstI_id, zb_chk, zk_bnd, show zisB (zI 0) = true by decide, zb_chk, zk_some, zk_some]
          exact ⟨rfl, zisB0, hRel⟩
        · have hv : ∃ v : Int, (0 ≤ v ∧ v ≤ 2) ∧ (∀ M x, (if zI is = zI 0 then f_X1_tellTie_75 M x (zI 0) else f_X1_tellTie_75 M x (zI kind)) = f_X1_tellTie_75 M x (zI v)) ∧ (∀ M x, (if zI is = zI 0 then f_X12_tellsTwo_70 M x (zI 0) else f_X12_tellsTwo_70 M x (zI kind)) = f_X12_tellsTwo_70 M x (zI v)) := by
            by_cases h0 : is = 0
            · exact ⟨0, by omega, fun M x => if_pos (by rw [h0]; rfl), fun M x => if_pos (by rw [h0]; rfl)⟩
            · exact ⟨kind, by omega, fun M x => if_neg (by simp (disch := omega) only [zk_bind, zk_chk, zk_bnd, zk_some, zlp_l, zlp_r, zb_some, zb_bnd, zI_add, zI_sub, zI_mul, zI_neg, zI_le, zI_lt, zI_eq, zI_ix, zI_inI, Int.toNat_natCast, Int.toNat_add, Int.toNat_mul, true_and, and_true]; omega), fun M x => if_neg (by simp (disch := omega) only [zk_bind, zk_chk, zk_bnd, zk_some, zlp_l, zlp_r, zb_some, zb_bnd, zI_add, zI_sub, zI_mul, zI_neg, zI_le, zI_lt, zI_eq, zI_ix, zI_inI, Int.toNat_natCast, Int.toNat_add, Int.toNat_mul, true_and, and_true]; omega)⟩
          obtain ⟨v, hv, v1, v2⟩ := hv
          have hu : zund 3 T (gh σ (24 + T)) (fun i => if i = 24 + T then v else gh σ i) (gh σ) := Or.inr (Or.inl ⟨rfl, by omega, by omega, fun i hi => by
            by_cases hij : i = 24 + T
            · rw [hij, if_pos (by omega)]
            · rw [if_neg (by omega)]
              dsimp only
              rw [if_neg hij]⟩)
          rw [if_neg (by simp (disch := omega) only [zk_bind, zk_chk, zk_bnd, zk_some, zlp_l, zlp_r, zb_some, zb_bnd, zI_add, zI_sub, zI_mul, zI_neg, zI_le, zI_lt, zI_eq, zI_ix, zI_inI, Int.toNat_natCast, Int.toNat_add, Int.toNat_mul, true_and, and_true]; omega), if_neg (c := zI ((zb (gh σ (24 + T) = kind) : Nat) : Int) = zI is) (by simp (disch := omega) only [zk_bind, zk_chk, zk_bnd, zk_some, zlp_l, zlp_r, zb_some, zb_bnd, zI_add, zI_sub, zI_mul, zI_neg, zI_le, zI_lt, zI_eq, zI_ix, zI_inI, Int.toNat_natCast, Int.toNat_add, Int.toNat_mul, true_and, and_true]; omega), zI_inI (n := 400) (by omega) (by omega) (by omega), zb_chk, zI_ix (by omega) (by omega), Int.toNat_natCast, hsC.2.2.2 T hT, zk_bind, zk_bind]
          refine zOk_mono (c_note (P := gP σ) (H := gH σ) ho.2.2.2.2.1 hc.2.2.2.1 hu) (fun M1 k1 => ?_)
          rw [v1]
          unfold f_X1_tellTie_75
          rw [zI_inI (by omega) (by omega) (by omega), zb_chk, zk_bnd, zI_ix (by omega) (by omega), Int.toNat_natCast, zk_some]
          dsimp only
          have e13 : (zstI M1 22 T (zI v)).1 0 13 = C.1 0 13 := by rw [zm_Iq _ _ _ _ (by decide), k1.2.1 0 13 rfl]
          rw [e13, zbit_or1 hbit, show zisB (zI 1) = true by decide, zb_chk, zk_bnd, zb_chk, zk_some, zk_bind]
          refine zOk_mono (r_remembers (P := gP σ) (H := gH σ) (fun i => if i = 24 + T then v else gh σ i) ho.2.2.2.2.1 hr.2.2.2.2.1 hr.2.2.2.2.2.1) (fun R1 k2 => ?_)
          rw [r_twoAt R1 ha hb hab, zb_some, Nat.add_assoc, hTT, v2]
          unfold f_X12_tellsTwo_70
          rw [zI_inI (by omega) (by omega) (by omega), zb_chk, zk_bnd, zI_ix (by omega) (by omega), Int.toNat_natCast, zk_some]
          have hpC : zP zWact C (zstI (zstI M1 22 T (zI v)) 0 13 (zI 1)) := zP_I (zP_I (zP_mono k1.2 (fun a k ha => by unfold zWact at ha; unfold zWnt; simp at ha ⊢; omega)) rfl) rfl
          have hh1 : handR (gh σ) R1 := handR_x (fun k => k2.2.2.1 9 k rfl) hr.2.2.2.2.1
          refine ⟨rfl, zisB1, zNw σ (fun i => if i = 24 + T then v else gh σ i), okT_n ho (okH_tie' hk hT hv), relC_n hpC.1 hpC.2 ⟨?_, ?_, ?_, fun k hk => ?_⟩ ?_ ?_ ?_ (Or.inl (zm_Is _ _ _ _)) hc, relR_n (zP_I (zP_mono k2.2.2 (fun a k ha => ?_)) rfl) (handR_set hh1) (pastR_x ?_ (fun k => ?_) k2.1) ?_ hr⟩
          · dsimp only
            rw [zm_Iq _ _ _ _ (by decide), zm_Iq _ _ _ _ (by decide), k1.2.1 21 _ rfl, if_neg (by omega)]
            exact hsC.1
          · dsimp only
            rw [zm_Iq _ _ _ _ (by decide), zm_Iq _ _ _ _ (by decide), k1.2.1 21 _ rfl, if_neg (by omega)]
            exact hsC.2.1
          · dsimp only
            rw [zm_Iq _ _ _ _ (by decide), zm_Iq _ _ _ _ (by decide), k1.2.1 21 _ rfl, if_neg (by omega)]
            exact hsC.2.2.1
          · rw [zm_Iq _ _ _ _ (by decide)]
            dsimp only
            by_cases hkT : k = T
            · rw [hkT, zm_Is, if_pos rfl]
            · rw [zm_In _ _ _ _ hkT, if_neg (by omega), k1.2.1 22 k rfl]
              exact hsC.2.2.2 k hk
          · refine clueC_cg (h := gh σ) ?_ (fun f hf => ?_) (fun k hk => ⟨?_, ?_, ?_⟩) (clueC_x (fun a k hk => ?_) hc.2.1.2.2.2.1)
            · exact if_neg (by omega)
            · exact if_neg (by omega)
            · exact if_neg (by omega)
            · exact if_neg (by omega)
            · exact if_neg (by omega)
            · unfold dclueC at hk
              rw [zm_I, if_neg (by simp at hk; omega), zm_I, if_neg (by simp at hk; omega)]
              exact k1.2.1 a k (by unfold zWnt; simp at hk ⊢; omega)
          · exact actsC_x (by rw [zm_Iq _ _ _ _ (by decide), zm_Iq _ _ _ _ (by decide)]) (fun a k ha => by rw [zm_Iq _ _ _ _ (by omega), zm_Iq _ _ _ _ (by omega)]) k1.1
          · rw [zm_In _ _ _ _ (by decide), zm_Iq _ _ _ _ (by decide), k1.2.1 0 14 rfl]
            exact hc.2.2.2.2.2.1.2.1
          · simp at ha ⊢
            exact ha.2
          · rw [zm_Iq _ _ _ _ (by decide)]
          · rw [zm_Iq _ _ _ _ (by decide)]
          · rw [zm_Iq _ _ _ _ (by decide)]
            exact k2.2.1
    · rw [if_pos (zb_0.mpr h2), if_pos (c := zI (zb (0 ≤ b ∧ b < (gF σ : Int)) : Int) = zI 0) (zb_0.mpr h2), zk_some, zk_some]
      exact ⟨rfl, zisB0, hRel⟩
  · rw [if_pos (zb_0.mpr h1), if_pos (c := zI (zb (0 ≤ a ∧ a < (gF σ : Int)) : Int) = zI 0) (zb_0.mpr h1), zk_some, zk_some]
    exact ⟨rfl, zisB0, hRel⟩
theorem zp_alike : zPr_alike zRel := by
  rintro M1 M2 a1 a2 a3 ⟨σ, ho, hc, hr⟩ h3
  obtain ⟨a, rfl, l1, u1⟩ := zI_of a1
  obtain ⟨b, rfl, l2, u2⟩ := zI_of a2
  obtain ⟨n, hn, rfl⟩ := zisB_c h3
  unfold f_X11_alike f_X12_alike
  rw [zk_bind]
  refine zOk_mono (ztie ho hc hr (kind := 1) (by omega) hn l1 u1 l2 u2) (fun r1 h => ?_)
  obtain ⟨r2, e, g1, g2, g3⟩ := h
  rw [zk_chk, zk_some, show f_X12_tellsTwo M2 (zI a) (zI b) (zI 1) (zI n) = some r2 from e, zb_some, zk_chk, zk_some, ← g1]
  exact ⟨g2, g2, rfl, g3⟩
theorem zp_apart : zPr_apart zRel := by
  rintro M1 M2 a1 a2 a3 ⟨σ, ho, hc, hr⟩ h3
  obtain ⟨a, rfl, l1, u1⟩ := zI_of a1
  obtain ⟨b, rfl, l2, u2⟩ := zI_of a2
  obtain ⟨n, hn, rfl⟩ := zisB_c h3
  unfold f_X11_apart f_X12_apart
  rw [zk_bind]
  refine zOk_mono (ztie ho hc hr (kind := 2) (by omega) hn l1 u1 l2 u2) (fun r1 h => ?_)
  obtain ⟨r2, e, g1, g2, g3⟩ := h
  rw [zk_chk, zk_some, show f_X12_tellsTwo M2 (zI a) (zI b) (zI 2) (zI n) = some r2 from e, zb_some, zk_chk, zk_some, ← g1]
  exact ⟨g2, g2, rfl, g3⟩
