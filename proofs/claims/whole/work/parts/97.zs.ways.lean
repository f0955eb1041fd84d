/-! ===== ways, test ===== deps: 97.zr.grid -/
theorem gridC_w {F : Nat} {fr : Nat → Nat} {s : ZS} {h : Nat → Int} {N : Nat} {nl ny : Nat → Nat} {M0 M : ZMem} (hx : ∀ a k, 42 ≤ a → a ≤ 58 → a ≠ 56 → a ≠ 57 → M.1 a k = M0.1 a k) (hm : mchC (dKV F fr s h) M) (hg : gridC F fr s h N nl ny M0) : gridC F fr s h N nl ny M := by
  obtain ⟨h1, h2, h3, _, h4⟩ := hg
  suffices hh : netC (dLX F fr s h) h (zsg F fr h) 0 41 M ∧ netC (dLX F fr s h) h (zsg F fr h) 1 45 M ∧ valC F h (dGR F fr s h) (zsg F fr h) M ∧ (whlC (dKV F fr s h) M ∧ fitC (dLX F fr s h) N nl ny (dKV F fr s h) M ∧ M.1 54 8 = zI (zhitN (dLX F fr s h) N nl ny (dKV F fr s h))) from ⟨hh.1, hh.2.1, hh.2.2.1, hm, hh.2.2.2⟩
  have hg : netC (dLX F fr s h) h (zsg F fr h) 0 41 M0 ∧ netC (dLX F fr s h) h (zsg F fr h) 1 45 M0 ∧ valC F h (dGR F fr s h) (zsg F fr h) M0 ∧ (whlC (dKV F fr s h) M0 ∧ fitC (dLX F fr s h) N nl ny (dKV F fr s h) M0 ∧ M0.1 54 8 = zI (zhitN (dLX F fr s h) N nl ny (dKV F fr s h))) := ⟨h1, h2, h3, h4⟩
  have e43 : M.1 (41 + 2) = M0.1 (41 + 2) := funext (fun k => hx 43 k (by omega) (by omega) (by omega) (by omega))
  have e44 : M.1 (41 + 3) = M0.1 (41 + 3) := funext (fun k => hx 44 k (by omega) (by omega) (by omega) (by omega))
  have e47 : M.1 (45 + 2) = M0.1 (45 + 2) := funext (fun k => hx 47 k (by omega) (by omega) (by omega) (by omega))
  have e48 : M.1 (45 + 3) = M0.1 (45 + 3) := funext (fun k => hx 48 k (by omega) (by omega) (by omega) (by omega))
  have e49 : M.1 49 = M0.1 49 := funext (fun k => hx 49 k (by omega) (by omega) (by omega) (by omega))
  have e50 : M.1 50 = M0.1 50 := funext (fun k => hx 50 k (by omega) (by omega) (by omega) (by omega))
  have e51 : M.1 51 = M0.1 51 := funext (fun k => hx 51 k (by omega) (by omega) (by omega) (by omega))
  have e54 : M.1 54 = M0.1 54 := funext (fun k => hx 54 k (by omega) (by omega) (by omega) (by omega))
  have e55 : M.1 55 = M0.1 55 := funext (fun k => hx 55 k (by omega) (by omega) (by omega) (by omega))
  have e58 : M.1 58 = M0.1 58 := funext (fun k => hx 58 k (by omega) (by omega) (by omega) (by omega))
  unfold netC valC whlC fitC zArr at hg ⊢
  rw [e43, e44, e47, e48, e49, e50, e51, e54, e55, e58]
  exact hg
theorem relC_w {σ : ZT} {C N : ZMem} (hx : ∀ a k, a ≠ 56 → a ≠ 57 → (a < 59 ∨ 63 < a) → ¬ (a = 0 ∧ k = 15) → N.1 a k = C.1 a k) (h35 : N.2 35 = C.2 35) (h39 : N.2 39 = C.2 39) (hm : N.1 0 13 = zI 0 → N.1 0 14 = zI 0 → mchC (dV σ) N) (hb15 : zbit (N.1 0 15)) (hw : N.1 0 13 = zI 0 → N.1 0 14 = zI 0 → N.1 0 15 = zI 0 → zWAYS σ N) (h : relC σ C) : relC σ N := by
  obtain ⟨h1, h2, h3, h4, h5, h6⟩ := h
  have e13 : N.1 0 13 = C.1 0 13 := hx 0 13 (by decide) (by decide) (by decide) (by decide)
  have e14 : N.1 0 14 = C.1 0 14 := hx 0 14 (by decide) (by decide) (by decide) (by decide)
  refine ⟨⟨by rw [hx 1 1 (by decide) (by decide) (by decide) (by decide)]; exact h1.1, fun i hi => by rw [hx 2 i (by decide) (by decide) (by decide) (by omega)]; exact h1.2 i hi⟩, baC_x (fun a k hk => hx a k ?_ ?_ ?_ ?_) h2, ⟨by rw [hx 3 10 (by decide) (by decide) (by decide) (by decide)]; exact h3.1, fun k hk => by rw [hx 7 _ (by decide) (by decide) (by decide) (by omega), hx 7 _ (by decide) (by decide) (by decide) (by omega)]; exact h3.2 k hk⟩, ⟨by rw [hx 20 11 (by decide) (by decide) (by decide) (by decide)]; exact h4.1, fun p hp => by rw [hx 27 p (by decide) (by decide) (by decide) (by omega), hx 28 p (by decide) (by decide) (by decide) (by omega), hx 29 p (by decide) (by decide) (by decide) (by omega)]; exact h4.2 p hp⟩, by rw [hx 0 12 (by decide) (by decide) (by decide) (by decide)]; exact h5, ⟨by rw [e13]; exact h6.1.1, by rw [e14]; exact h6.1.2.1, hb15⟩, fun h13 => ?_, fun h13 h14 => ?_, hw⟩
  · unfold zWca at hk
    simp at hk
    omega
  · unfold zWca at hk
    simp at hk
    omega
  · unfold zWca at hk
    simp at hk
    omega
  · unfold zWca at hk
    simp at hk
    omega
  · rw [e13] at h13
    refine scriptC_x (fun a k hk c1 c2 c3 => hx a k ?_ ?_ c3 ?_) h35 h39 (h6.2.1 h13)
    · unfold zWgr at hk
      simp at hk
      omega
    · unfold zWgr at hk
      simp at hk
      omega
    · unfold zWgr at hk
      simp at hk
      omega
  · have g := h6.2.2.1 (e13 ▸ h13) (e14 ▸ h14)
    exact gridC_w (fun a k c1 c2 c3 c4 => hx a k c3 c4 (by omega) (by omega)) (hm h13 h14) g
theorem zp_ways : zPr_ways zRel := by
  rintro M1 M2 a1 ⟨σ, ho, hc, hr⟩
  obtain ⟨a, rfl, l1, u1⟩ := zI_of a1
  have hF := ho.2.1
  have hk := okT_hk ho
  have hN := ho.2.2.2.1
  have hN4 := hN.1
  have okl := dL_ok ho
  have hRel : zRel M1 M2 := ⟨σ, ho, hc, hr⟩
  have body : -1 ≤ a → a < gN σ → zOk (f_X11_ways_18 M1 (zI a)) (fun r1 => zOk (zbind (f_X12_lays M2) (fun M_17 => zbind (f_X12_laysWays M_17) (fun M_21 => if zI a = (zI (-1)) then some (M_21, (M_21.1 0 40)) else if (M_21.1 0 40) = (zI 0) then some (M_21, (zI (-2))) else zchk (zin (zI a) 4) (some (M_21, (M_21.1 27 (zix (zI a)))))))) (fun r2 => r1.2 = r2.2 ∧ zRel r1.1 r2.1)) := by
    intro ha1 ha2
    have ref : ∀ (C : ZMem) (v : Int32), relC σ C → (v = if a = -1 then zI ((min 999 (zwall (dL σ) (gN σ) (gl σ) (gy σ) (dV σ) (dG σ)).length : Nat) : Int) else zI (((zwall (dL σ) (gN σ) (gl σ) (gy σ) (dV σ) (dG σ)).head?.elim (-2) (fun x => ((x.getD a.toNat 0 : Nat) : Int))))) → zOk (zbind (f_X12_lays M2) (fun M_17 => zbind (f_X12_laysWays M_17) (fun M_21 => if zI a = (zI (-1)) then some (M_21, (M_21.1 0 40)) else if (M_21.1 0 40) = (zI 0) then some (M_21, (zI (-2))) else zchk (zin (zI a) 4) (some (M_21, (M_21.1 27 (zix (zI a)))))))) (fun r2 => v = r2.2 ∧ zRel C r2.1) := by
      intro C v hC hv
      rw [zk_bind]
      refine zOk_mono (k_ls ho hr) (fun R h' => ?_)
      have hlR : lexR (dL σ) R := h'.2.2.2.2.1.1
      have hkn : knV (gF σ) (dKN (gF σ) (gf σ) (gs σ) (gh σ)) R := h'.2.2.2.2.2.2.2
      rw [zk_bind]
      refine zOk_mono (r_laysWays hF hN okl ⟨h'.1.2.2.2.1, hlR, h'.2.2.2.2.2.2.1, hkn⟩ (dSg_F hF ho.2.2.1) (dKN_ok hF hk) (dGR_lt hF)) (fun R2 k => ?_)
      obtain ⟨k1, k2⟩ := k
      unfold waysR at k1
      rw [dWall hF ho.2.2.1] at k1
      have hRel' : zRel C R2 := ⟨σ, ho, hC, relR_x (zP_mono k2 (fun a k ha => by unfold zScR at ha; unfold zWwr; simp at ha ⊢; omega)) h'.1⟩
      rw [k1.1]
      by_cases ca : a = -1
      · rw [if_pos (by rw [ca]), zk_some, hv, if_pos ca]
        exact ⟨rfl, hRel'⟩
      · rw [if_neg (by simp (disch := omega) only [zk_bind, zk_chk, zk_bnd, zk_some, zlp_l, zlp_r, zb_some, zb_bnd, zI_add, zI_sub, zI_mul, zI_neg, zI_le, zI_lt, zI_eq, zI_ix, zI_inI, Int.toNat_natCast, Int.toNat_add, Int.toNat_mul, true_and, and_true]; omega)]
        rw [if_neg ca] at hv
        cases hw : zwall (dL σ) (gN σ) (gl σ) (gy σ) (dV σ) (dG σ) with
        | nil =>
          rw [if_pos (by decide), zk_some, hv, hw]
          exact ⟨rfl, hRel'⟩
        | cons x rest =>
          obtain ⟨n, rfl⟩ := Int.eq_ofNat_of_zero_le (show 0 ≤ a by omega)
          rw [if_neg (by rw [List.length_cons]; simp (disch := omega) only [zk_bind, zk_chk, zk_bnd, zk_some, zlp_l, zlp_r, zb_some, zb_bnd, zI_add, zI_sub, zI_mul, zI_neg, zI_le, zI_lt, zI_eq, zI_ix, zI_inI, Int.toNat_natCast, Int.toNat_add, Int.toNat_mul, true_and, and_true]; omega), zI_inI (by omega) (by omega) (by omega), zb_chk, zk_some, zI_ix (by omega) (by omega), Int.toNat_natCast, k1.2 x (by rw [show zwall (dLX (gF σ) (gf σ) (gs σ) (gh σ)) (gN σ) (gl σ) (gy σ) (dKV (gF σ) (gf σ) (gs σ) (gh σ)) (dGR (gF σ) (gf σ) (gs σ) (gh σ)) = x :: rest from hw]; rfl) n (by omega), hv, hw]
          exact ⟨rfl, hRel'⟩
    have cls : ∀ C : ZMem, relC σ C → zWAYS σ C → zOk (f_X11_ways_41 C (zI a)) (fun r => r.1 = C ∧ r.2 = if a = -1 then zI ((min 999 (zwall (dL σ) (gN σ) (gl σ) (gy σ) (dV σ) (dG σ)).length : Nat) : Int) else zI (((zwall (dL σ) (gN σ) (gl σ) (gy σ) (dV σ) (dG σ)).head?.elim (-2) (fun x => ((x.getD a.toNat 0 : Nat) : Int))))) := by
      intro C hC hw
      unfold f_X11_ways_41 f_X10_found f_X10_firstWord
      rw [hw.1]
      by_cases ca : a = -1
      · rw [if_pos (by rw [ca]), zb_some, zk_some, if_pos ca]
        exact ⟨rfl, rfl⟩
      · rw [if_neg (by simp (disch := omega) only [zk_bind, zk_chk, zk_bnd, zk_some, zlp_l, zlp_r, zb_some, zb_bnd, zI_add, zI_sub, zI_mul, zI_neg, zI_le, zI_lt, zI_eq, zI_ix, zI_inI, Int.toNat_natCast, Int.toNat_add, Int.toNat_mul, true_and, and_true]; omega), if_neg ca]
        cases hww : zwall (dL σ) (gN σ) (gl σ) (gy σ) (dV σ) (dG σ) with
        | nil =>
          rw [if_pos (by decide), zb_some, zk_some]
          exact ⟨rfl, rfl⟩
        | cons x rest =>
          obtain ⟨n, rfl⟩ := Int.eq_ofNat_of_zero_le (show 0 ≤ a by omega)
          rw [if_neg (by rw [List.length_cons]; simp (disch := omega) only [zk_bind, zk_chk, zk_bnd, zk_some, zlp_l, zlp_r, zb_some, zb_bnd, zI_add, zI_sub, zI_mul, zI_neg, zI_le, zI_lt, zI_eq, zI_ix, zI_inI, Int.toNat_natCast, Int.toNat_add, Int.toNat_mul, true_and, and_true]; omega), if_neg (by simp (disch := omega) only [zk_bind, zk_chk, zk_bnd, zk_some, zlp_l, zlp_r, zb_some, zb_bnd, zI_add, zI_sub, zI_mul, zI_neg, zI_le, zI_lt, zI_eq, zI_ix, zI_inI, Int.toNat_natCast, Int.toNat_add, Int.toNat_mul, true_and, and_true]; omega), if_neg (by simp (disch := omega) only [zk_bind, zk_chk, zk_bnd, zk_some, zlp_l, zlp_r, zb_some, zb_bnd, zI_add, zI_sub, zI_mul, zI_neg, zI_le, zI_lt, zI_eq, zI_ix, zI_inI, Int.toNat_natCast, Int.toNat_add, Int.toNat_mul, true_and, and_true]; omega), zI_inI (by omega) (by omega) (by omega), zb_chk, zb_some, zk_some, zI_ix (by omega) (by omega), Int.toNat_natCast, hw.2 x (by rw [show zwall (dLX (gF σ) (gf σ) (gs σ) (gh σ)) (gN σ) (gl σ) (gy σ) (dKV (gF σ) (gf σ) (gs σ) (gh σ)) (dGR (gF σ) (gf σ) (gs σ) (gh σ)) = x :: rest from hww]; rfl) n (by omega)]
          exact ⟨rfl, rfl⟩
    unfold f_X11_ways_18
    rw [zk_bind]
    refine zOk_mono (k_fg ho hc) (fun C h => ?_)
    obtain ⟨hC, h13, h14⟩ := h
    by_cases h15 : C.1 0 15 = zI 0
    · rw [if_pos h15]
      refine zOk_mono (cls C hC (hC.2.2.2.2.2.2.2.2 h13 h14 h15)) (fun r k => ?_)
      rw [k.1]
      exact ref C r.2 hC k.2
    · have hs := hC.2.2.2.2.2.2.1 h13
      have hg := hC.2.2.2.2.2.2.2.1 h13 h14
      have hlW : lexW (dL σ) C := ⟨hs.2.2.2.1.1, hs.2.2.2.1.2.1⟩
      have hlab : labS (dL σ) (dG σ) C := by
        intro w i hw hi
        obtain ⟨f, f1, f2⟩ := dSg_lt (fr := gf σ) (h := gh σ) hF ho.2.2.1 hw hi
        have hsi := dS_i σ f1
        have hlt : dS σ f < gF σ := by omega
        have q0 := c_lab ho hg.1 hlt
        have q1 := c_lab ho hg.2.1 hlt
        rw [hsi.2] at q0 q1
        rw [f2]
        exact ⟨⟨q0, q1⟩, dGR_lt hF 0 _ hlt, dGR_lt hF 1 _ hlt⟩
      rw [if_neg h15, zk_bind]
      refine zOk_mono (c_waysSettle hN okl ⟨hC.2.1.2.2.2.2.1, hlW, hlab, hg.2.2.2.2.2.1⟩) (fun N k => ?_)
      obtain ⟨k1, k2⟩ := k
      have hway : zWAYS σ (zstI N 0 15 (zI 0)) := ⟨by rw [zm_Iq _ _ _ _ (by decide)]; exact k1.1, fun x hx m hm => by rw [zm_Iq _ _ _ _ (by decide)]; exact k1.2 x hx m hm⟩
      have hC' : relC σ (zstI N 0 15 (zI 0)) := by
        refine relC_w (fun a k c1 c2 c3 c4 => ?_) ?_ ?_ (fun h13' h14' s hs => ?_) (Or.inl (zm_Is _ _ _ _)) (fun _ _ _ => hway) hC
        · rw [zm_I, if_neg c4]
          exact k2.1 a k (by unfold zWw; simp; omega)
        · rw [zm_I2]
          exact k2.2 35 rfl
        · rw [zm_I2]
          exact k2.2 39 rfl
        · rw [zm_Iq _ _ _ _ (by decide), zm_Iq _ _ _ _ (by decide), k2.1 56 s rfl, k2.1 57 s rfl]
          exact hg.2.2.2.1 s hs
      rw [zk_bnd]
      refine zOk_mono (cls _ hC' hway) (fun r k => ?_)
      rw [k.1]
      exact ref _ r.2 hC' k.2
  unfold f_X11_ways f_X12_ways
  rw [c_has4 hc.2.1.2.2.2.2.1.1 hN4 l1 u1, zb_some, hr.2.2.2.1.1, zI_sub, r_in l1 u1 (by omega) (by omega) (by omega) (by omega), zb_some]
  by_cases h1 : a = -1
  · rw [if_pos (show zI a = zI (-1) by rw [h1]), if_neg (c := zI (zb (-1 ≤ a ∧ a ≤ ((gN σ : Nat) : Int) - 1) : Int) = zI 0) (fun hh => zb_0.mp hh (by omega))]
    exact body (by omega) (by omega)
  · rw [if_neg (c := zI a = zI (-1)) (by simp (disch := omega) only [zk_bind, zk_chk, zk_bnd, zk_some, zlp_l, zlp_r, zb_some, zb_bnd, zI_add, zI_sub, zI_mul, zI_neg, zI_le, zI_lt, zI_eq, zI_ix, zI_inI, Int.toNat_natCast, Int.toNat_add, Int.toNat_mul, true_and, and_true]; omega)]
    by_cases h2 : 0 ≤ a ∧ a < gN σ
    · rw [if_neg (c := zI (zb (0 ≤ a ∧ a < (gN σ : Int)) : Int) = zI 0) (fun hh => zb_0.mp hh h2), if_neg (c := zI (zb (-1 ≤ a ∧ a ≤ ((gN σ : Nat) : Int) - 1) : Int) = zI 0) (fun hh => zb_0.mp hh (by omega))]
      exact body (by omega) (by omega)
    · rw [if_pos (zb_0.mpr h2), if_pos (zb_0.mpr (by omega)), zk_some, zk_some]
      exact ⟨rfl, hRel⟩
-- test
theorem dKV_20 {σ : ZT} (hF : gF σ ≤ 20) : ∀ kind s, 20 ≤ s → dV σ kind s = -1 := by
  intro kind s hs
  exact zif_f (fun hh => by have := hh.1; omega) _ _
theorem laidR_k {F : Nat} {fr : Nat → Nat} {s : ZS} {h : Nat → Int} {M0 M : ZMem} (hx : ∀ a k, (a = 11 ∨ a = 13 ∨ a = 14 ∨ a = 16 ∨ a = 17 ∨ a = 18 ∨ a = 19 ∨ a = 20 ∨ a = 22 ∨ a = 23 ∨ (a = 0 ∧ (k = 19 ∨ k = 23 ∨ k = 25 ∨ k = 26))) → M.1 a k = M0.1 a k) (hk : knR F h (dGR F fr s h) M) (hl : laidR F fr s h M0) : laidR F fr s h M := by
  obtain ⟨h1, h2, h3, h4, h5, _⟩ := hl
  exact ⟨⟨fun f hf => by rw [hx 11 f (by omega)]; exact h1.1 f hf, by rw [hx 0 19 (by omega)]; exact h1.2⟩, rowsH_x (hx 0 23 (by omega)) (fun k => hx 13 k (by omega)) (fun k => hx 14 k (by omega)) h2, ⟨lexR_x (hx 0 25 (by omega)) (fun k => hx 16 k (by omega)) (fun k => hx 17 k (by omega)) (fun k => hx 18 k (by omega)) h3.1, by rw [hx 0 26 (by omega)]; exact h3.2.1, fun f hf => by rw [hx 19 f (by omega)]; exact h3.2.2.1 f hf, fun f hf => by rw [hx 20 f (by omega)]; exact h3.2.2.2 f hf⟩, fun kind a b c1 c2 c3 => by rw [hx 22 _ (by omega)]; exact h4 kind a b c1 c2 c3, fun kind f c1 c2 => by rw [hx 23 _ (by omega)]; exact h5 kind f c1 c2, hk⟩
def zWts (a k : Nat) : Bool := a == 25 || a == 28 || a == 29 || a == 30 || (a == 0 && k == 41)
theorem relR_k {σ : ZT} {M0 M : ZMem} (hp : zP zWts M0 M) (h41 : M.1 0 41 = M0.1 0 41) (hk : knR (gF σ) (gh σ) (dG σ) M) (h : relR σ M0) : relR σ M := by
  obtain ⟨h1, h2, h3, h4, h5, h6, h7, h8, h9⟩ := h
  refine ⟨⟨by rw [hp.1 0 1 rfl]; exact h1.1, fun i hi => by rw [hp.1 1 i rfl]; exact h1.2 i hi⟩, formsR_x (fun a k hk => hp.1 a k ?_) h2, stonesR_x (fun a k hk => hp.1 a k ?_) h3, ⟨by rw [hp.1 0 12 rfl]; exact h4.1, fun n hn => ⟨by rw [hp.1 7 n rfl]; exact (h4.2 n hn).1, fun k hk => by rw [hp.1 8 _ rfl]; exact (h4.2 n hn).2 k hk⟩⟩, handR_x (fun k => hp.1 9 k rfl) h5, pastR_x (hp.1 0 17 rfl) (fun k => hp.1 10 k rfl) h6, by rw [h41]; exact h7, by rw [hp.1 0 45 rfl]; exact h8, fun hh => laidR_k (fun a k ha => hp.1 a k ?_) hk (h9 (by rw [← hp.1 0 45 rfl]; exact hh))⟩
  · unfold dformsR at hk
    unfold zWts
    simp at hk ⊢
    omega
  · unfold dstonesR at hk
    unfold zWts
    simp at hk ⊢
    omega
  · unfold zWts
    simp
    omega
theorem zpt1_le (v : Int) : zpt 1 v ≤ 4 := by
  unfold zpt
  rw [if_neg (by decide)]
  omega
theorem zkc1_le (h : Nat → Int) (gr : Nat → Nat) (c : Nat) {F : Nat} (hk : okH F h) {i : Nat} (hi : i ≤ 20) : zkc h gr 1 c i ≤ 4 := by
  rcases zkc_fst hk gr 1 c i hi with ⟨e, _⟩ | ⟨g, _, _, e, _⟩
  · omega
  · rw [e]
    exact zpt1_le _
theorem r_test {σ : ZT} {R : ZMem} (ho : okT σ) (hR : relR σ R) (hl : laidR (gF σ) (gf σ) (gs σ) (gh σ) R) {m : Nat} (hm : 1 ≤ m ∧ m ≤ 50) : zOk (zbind (f_X12_hitsNow R) (fun r_17 => zbind (f_X12_laysWhole R) (fun r_22 => zbnd (r_22.1.1 0 41) (fun x4_30 => zbind (zloop (f_X12_test_L38 (zI m) r_17 r_22.2 x4_30) (r_22.1, (zI 0), (zI 0))) (fun e38 => zbnd (zstI e38.1 0 41 x4_30) (fun M_79 => zbind (f_X12_laysKnown M_79) (fun M_83 => some (M_83, e38.2)))))))) (fun r => r.2 = zI (zgoodN (dL σ) (gN σ) (gl σ) (gy σ) (dV σ) (gx σ) m) ∧ relR σ r.1) := by
  have hF := ho.2.1
  have hk := okT_hk ho
  have hN := ho.2.2.2.1
  have hN4 := hN.1
  have okl := dL_ok ho
  have hx := ho.2.2.2.2.2.2
  have hv := dKV_ok (fr := gf σ) (s := gs σ) hF hk
  have hlR : lexR (dL σ) R := hl.2.2.1.1
  have hkn : knV (gF σ) (dKN (gF σ) (gf σ) (gs σ) (gh σ)) R := hl.2.2.2.2.2
  rw [r_hitsNow hF hN hR.2.2.2.1 okl hlR (dSg_F hF ho.2.2.1) (dKN_ok hF hk) hkn, dHit hF ho.2.2.1, zb_some, zk_bind]
  refine zOk_mono (r_laysWhole hF hR.2.1.2.1 hk hl.1.1 (fun f hf => zsgl ho hf) hl.2.2.2.2.2) (fun r k => ?_)
  obtain ⟨N0, v⟩ := r
  obtain ⟨k1, k2, k3⟩ := k
  have k1 : v = zI ((zwhl (dV σ)).length : Int) := k1
  have k2 : whlR (zwhl (dV σ)) (dV σ) N0 := k2
  dsimp only at k3 ⊢
  have hlen : (zwhl (dV σ)).length ≤ 20 := zfil_le _ 20
  have hmem : ∀ k, k < (zwhl (dV σ)).length → (zwhl (dV σ)).getD k 0 < gF σ ∧ dV σ 0 ((zwhl (dV σ)).getD k 0) ≠ -1 ∧ dV σ 1 ((zwhl (dV σ)).getD k 0) ≠ -1 := by
    intro k hk
    have := zfil_mem.mp (zgetD_m hk)
    refine ⟨?_, this.2⟩
    by_cases hlt : (zwhl (dV σ)).getD k 0 < gF σ
    · exact hlt
    · exact absurd (zif_f (fun hh => hlt hh.1) _ _) this.2.1
  have hle1 : ∀ s, dV σ 1 s ≤ 4 := by
    intro s
    show zkv (gF σ) (gh σ) (dG σ) (dS σ) 1 s ≤ 4
    unfold zkv
    by_cases hs : s < gF σ ∧ dS σ s = s
    · rw [zif_t hs]
      exact zkc1_le _ _ _ hk hF
    · rw [zif_f hs]
      omega
  have h41 : N0.1 0 41 = zI (gx σ) := by rw [k3.1 0 41 rfl]; exact hR.2.2.2.2.2.2.1
  rw [zk_bnd, h41, k1, zk_bind]
  refine zOk_forQ (fun i s => s.2.1 = zI (zsum i (fun i => zb (zhitN (dL σ) (gN σ) (gl σ) (gy σ) (dV σ) ≤ zhitX (dL σ) (gN σ) (gl σ) (gy σ) (dV σ) (gx σ) i)) : Int) ∧ s.2.2 = zI i ∧ zP zWts R s.1 ∧ whlR (zwhl (dV σ)) (dV σ) s.1 ∧ s.1.1 0 41 = zI (zxs (zwhl (dV σ)).length (gx σ) i)) m ?_ ?_ ⟨rfl, rfl, zP_mono k3 (fun a k ha => by unfold zWts at ha; simp at ha ⊢; omega), k2, h41⟩
  · rintro i ⟨N, s1, s2⟩ hi ⟨e1, e2, e3, e4, e5⟩ Q hQ _
    dsimp only at e1 e2 e3 e4 e5
    unfold f_X12_test_L38
    dsimp only
    rw [e1, e2, if_neg (by simp (disch := omega) only [zk_bind, zk_chk, zk_bnd, zk_some, zlp_l, zlp_r, zb_some, zb_bnd, zI_add, zI_sub, zI_mul, zI_neg, zI_le, zI_lt, zI_eq, zI_ix, zI_inI, Int.toNat_natCast, Int.toNat_add, Int.toNat_mul, true_and, and_true]; omega), zk_bind]
    refine zOk_mono (r_mixes hF hlen (fun k hk => (hmem k hk).1) zfil_inj hv (fun k hk => ⟨(hmem k hk).2.1, (hmem k hk).2.2, hle1 _⟩) (zxs_lt hx i) e5 e4) (fun N' j => ?_)
    obtain ⟨j1, j2, j3⟩ := j
    have p' : zP zWts R N' := zP_tr e3 (zP_mono j3 (fun a k ha => by unfold zWts at ha; unfold zWmx; simp at ha ⊢; omega))
    have hN' : namesR (gN σ) (gl σ) (gy σ) N' := ⟨by rw [p'.1 0 12 rfl]; exact hR.2.2.2.1.1, fun n hn => ⟨by rw [p'.1 7 n rfl]; exact (hR.2.2.2.1.2 n hn).1, fun k hk => by rw [p'.1 8 _ rfl]; exact (hR.2.2.2.1.2 n hn).2 k hk⟩⟩
    have hlR' : lexR (dL σ) N' := lexR_x (p'.1 0 25 rfl) (fun k => p'.1 16 k rfl) (fun k => p'.1 17 k rfl) (fun k => p'.1 18 k rfl) hlR
    have hh1 := zhit_le (kv := dV σ) (nl := gl σ) (ny := gy σ) hN4 okl
    have hh2 := zhit_le (kv := zmx (zwhl (dV σ)) (zshP (zwhl (dV σ)).length (zxs (zwhl (dV σ)).length (gx σ) i) ((zwhl (dV σ)).length - 1)) (dV σ)) (nl := gl σ) (ny := gy σ) hN4 okl
    rw [r_hitsNow (kv := zmx (zwhl (dV σ)) (zshP (zwhl (dV σ)).length (zxs (zwhl (dV σ)).length (gx σ) i) ((zwhl (dV σ)).length - 1)) (dV σ)) hF hN hN' okl hlR' (dSg_F hF ho.2.2.1) (show okV (zmx (zwhl (dV σ)) (zshP (zwhl (dV σ)).length (zxs (zwhl (dV σ)).length (gx σ) i) ((zwhl (dV σ)).length - 1)) (dV σ)) from zmxB_ok hv (fun _ _ => by omega)) j1, zb_some]
    have last : ∀ p : Prop, zb p = zb (zhitN (dL σ) (gN σ) (gl σ) (gy σ) (dV σ) ≤ zhitX (dL σ) (gN σ) (gl σ) (gy σ) (dV σ) (gx σ) i) → zOk (f_X12_test_64_L38 N' (zI m) (zI ((zhitN (dL σ) (gN σ) (gl σ) (gy σ) (dV σ) : Nat) : Int)) (zI ((zwhl (dV σ)).length : Int)) (zI (gx σ)) (zI i) (zI (zsum i (fun i => zb (zhitN (dL σ) (gN σ) (gl σ) (gy σ) (dV σ) ≤ zhitX (dL σ) (gN σ) (gl σ) (gy σ) (dV σ) (gx σ) i)) : Int)) (zI (zb p))) Q := by
      intro p hp
      unfold f_X12_test_64_L38
      rw [r_truth, zb_some, zk_bnd, zk_bnd, zk_some, zI_add]
      refine hQ _ ⟨?_, zI_inj (by omega), p', ⟨fun k hk => by dsimp only; rw [j3.1 28 k rfl]; exact e4.1 k hk, fun k hk => by dsimp only; rw [j3.1 29 k rfl]; exact e4.2 k hk⟩, j2⟩
      dsimp only
      rw [zsum_s, ← hp]
      by_cases hpp : p
      · rw [if_neg (fun hh => zb_0.mp hh hpp), zb_t hpp, zI_add]
        rfl
      · rw [if_pos (zb_0.mpr hpp), zb_f hpp, zI_add]
        rfl
    by_cases hlt : zhitN (dL σ) (gN σ) (gl σ) (gy σ) (zmx (zwhl (dV σ)) (zshP (zwhl (dV σ)).length (zxs (zwhl (dV σ)).length (gx σ) i) ((zwhl (dV σ)).length - 1)) (dV σ)) < zhitN (dL σ) (gN σ) (gl σ) (gy σ) (dV σ)
    · have := last False (by rw [zb_f (fun h => h), zb_f (show ¬ (_ ≤ zhitX _ _ _ _ _ _ _) by unfold zhitX; omega)])
      rw [zb_f (fun h => h)] at this
      rw [if_pos (c := zI ((zhitN (dL σ) (gN σ) (gl σ) (gy σ) (zmx (zwhl (dV σ)) (zshP (zwhl (dV σ)).length (zxs (zwhl (dV σ)).length (gx σ) i) ((zwhl (dV σ)).length - 1)) (dV σ)) : Nat) : Int) < zI ((zhitN (dL σ) (gN σ) (gl σ) (gy σ) (dV σ) : Nat) : Int)) (by simp (disch := omega) only [zk_bind, zk_chk, zk_bnd, zk_some, zlp_l, zlp_r, zb_some, zb_bnd, zI_add, zI_sub, zI_mul, zI_neg, zI_le, zI_lt, zI_eq, zI_ix, zI_inI, Int.toNat_natCast, Int.toNat_add, Int.toNat_mul, true_and, and_true]; omega)]
      exact this
    · have := last True (by rw [zb_t trivial, zb_t (show _ ≤ zhitX _ _ _ _ _ _ _ by unfold zhitX; omega)])
      rw [zb_t trivial] at this
      rw [if_neg (c := zI ((zhitN (dL σ) (gN σ) (gl σ) (gy σ) (zmx (zwhl (dV σ)) (zshP (zwhl (dV σ)).length (zxs (zwhl (dV σ)).length (gx σ) i) ((zwhl (dV σ)).length - 1)) (dV σ)) : Nat) : Int) < zI ((zhitN (dL σ) (gN σ) (gl σ) (gy σ) (dV σ) : Nat) : Int)) (by simp (disch := omega) only [zk_bind, zk_chk, zk_bnd, zk_some, zlp_l, zlp_r, zb_some, zb_bnd, zI_add, zI_sub, zI_mul, zI_neg, zI_le, zI_lt, zI_eq, zI_ix, zI_inI, Int.toNat_natCast, Int.toNat_add, Int.toNat_mul, true_and, and_true]; omega)]
      exact this
  · rintro ⟨N, s1, s2⟩ ⟨e1, e2, e3, e4, e5⟩
    dsimp only at e1 e2 e3 e4 e5
    refine ⟨(N, s1), ?_, ?_⟩
    · unfold f_X12_test_L38
      dsimp only
      rw [e2, if_pos (by simp (disch := omega) only [zk_bind, zk_chk, zk_bnd, zk_some, zlp_l, zlp_r, zb_some, zb_bnd, zI_add, zI_sub, zI_mul, zI_neg, zI_le, zI_lt, zI_eq, zI_ix, zI_inI, Int.toNat_natCast, Int.toNat_add, Int.toNat_mul, true_and, and_true]; omega)]
    · dsimp only
      rw [zk_bnd, zk_bind]
      have p1 : zP zWts R (zstI N 0 41 (zI (gx σ))) := zP_I e3 rfl
      have hg1 : grpR (gF σ) (dG σ) (zstI N 0 41 (zI (gx σ))) := fun kind f c1 c2 => by rw [p1.1 23 _ rfl]; exact hl.2.2.2.2.1 kind f c1 c2
      refine zOk_mono (r_laysKnown hF (by rw [p1.1 0 4 rfl]; exact hR.2.1.2.1) hk (handR_x (fun k => p1.1 9 k rfl) hR.2.2.2.2.1) hg1 (dGR_lt hF)) (fun R' j => ?_)
      rw [zk_some]
      refine ⟨e1, relR_k (zP_tr p1 (zP_mono j.2 (fun a k ha => ?_))) ?_ j.1 hR⟩
      · unfold zWts at ha
        simp at ha ⊢
        omega
      · rw [j.2.1 0 41 rfl, zm_Is]
        exact hR.2.2.2.2.2.2.1.symm
theorem zp_test : zPr_test zRel := by
  rintro M1 M2 a1 ⟨σ, ho, hc, hr⟩
  obtain ⟨a, rfl, l1, u1⟩ := zI_of a1
  have hF := ho.2.1
  have hk := okT_hk ho
  have okl := dL_ok ho
  have hRel : zRel M1 M2 := ⟨σ, ho, hc, hr⟩
  unfold f_X11_test f_X12_test
  rw [r_in l1 u1 (by omega) (by omega) (by omega) (by omega), zb_some]
  by_cases h1 : 1 ≤ a ∧ a ≤ 50
  · obtain ⟨m, rfl⟩ := Int.eq_ofNat_of_zero_le (show 0 ≤ a by omega)
    rw [if_neg (by simp (disch := omega) only [zk_bind, zk_chk, zk_bnd, zk_some, zlp_l, zlp_r, zb_some, zb_bnd, zI_add, zI_sub, zI_mul, zI_neg, zI_le, zI_lt, zI_eq, zI_ix, zI_inI, Int.toNat_natCast, Int.toNat_add, Int.toNat_mul, true_and, and_true]; omega), if_pos (by simp (disch := omega) only [zk_bind, zk_chk, zk_bnd, zk_some, zlp_l, zlp_r, zb_some, zb_bnd, zI_add, zI_sub, zI_mul, zI_neg, zI_le, zI_lt, zI_eq, zI_ix, zI_inI, Int.toNat_natCast, Int.toNat_add, Int.toNat_mul, true_and, and_true]; omega), if_neg (fun hh => zb_0.mp hh h1), zk_bind]
    refine zOk_mono (k_fg ho hc) (fun C h => ?_)
    obtain ⟨hC, h13, h14⟩ := h
    have hs := hC.2.2.2.2.2.2.1 h13
    have hg := hC.2.2.2.2.2.2.2.1 h13 h14
    have hlW : lexW (dL σ) C := ⟨hs.2.2.2.1.1, hs.2.2.2.1.2.1⟩
    rw [hC.2.2.2.2.1, zk_bind]
    refine zOk_mono (c_asGood ho.2.2.2.1 hC.2.1.2.2.2.2.1 okl hlW (dKV_ok hF hk) hg.2.2.1.1 hg.2.2.2 (dKV_20 hF) (show m ≤ 50 by omega) ho.2.2.2.2.2.2) (fun r k => ?_)
    obtain ⟨N, v⟩ := r
    obtain ⟨k1, k2, k3⟩ := k
    dsimp only at k1 k2 k3 ⊢
    rw [zk_some, k1, zk_bind]
    refine zOk_mono (k_ls ho hr) (fun R h' => ?_)
    refine zOk_mono (r_test ho h'.1 h'.2.2 ⟨by omega, by omega⟩) (fun r j => ?_)
    refine ⟨j.1.symm, σ, ho, relC_w (fun a k c1 c2 c3 c4 => k3.1 a k (by simp; omega)) (by rw [k3.2]) (by rw [k3.2]) (fun _ _ => k2) ?_ (fun q1 q2 q3 => ?_) hC, j.2⟩
    · rw [k3.1 0 15 rfl]
      exact hC.2.2.2.2.2.1.2.2
    · rw [k3.1 0 15 rfl] at q3
      have w := hC.2.2.2.2.2.2.2.2 h13 h14 q3
      exact ⟨by rw [k3.1 59 9 rfl]; exact w.1, fun x hx m hm => by rw [k3.1 63 m rfl]; exact w.2 x hx m hm⟩
  · rw [if_pos (zb_0.mpr h1)]
    by_cases h2 : a < 1
    · rw [if_pos (by simp (disch := omega) only [zk_bind, zk_chk, zk_bnd, zk_some, zlp_l, zlp_r, zb_some, zb_bnd, zI_add, zI_sub, zI_mul, zI_neg, zI_le, zI_lt, zI_eq, zI_ix, zI_inI, Int.toNat_natCast, Int.toNat_add, Int.toNat_mul, true_and, and_true]; omega), zk_some, zk_some]
      exact ⟨rfl, hRel⟩
    · rw [if_neg (by simp (disch := omega) only [zk_bind, zk_chk, zk_bnd, zk_some, zlp_l, zlp_r, zb_some, zb_bnd, zI_add, zI_sub, zI_mul, zI_neg, zI_le, zI_lt, zI_eq, zI_ix, zI_inI, Int.toNat_natCast, Int.toNat_add, Int.toNat_mul, true_and, and_true]; omega), if_neg (by simp (disch := omega) only [zk_bind, zk_chk, zk_bnd, zk_some, zlp_l, zlp_r, zb_some, zb_bnd, zI_add, zI_sub, zI_mul, zI_neg, zI_le, zI_lt, zI_eq, zI_ix, zI_inI, Int.toNat_natCast, Int.toNat_add, Int.toNat_mul, true_and, and_true]; omega), zk_some, zk_some]
      exact ⟨rfl, hRel⟩
