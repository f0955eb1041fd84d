/-! ===== forms told: both ===== deps: 97.zyb.formsc 97.zyd.formsr2 97.zye.formsr3 97.zxd.stonep -/
def zWrf (a k : Nat) : Bool := a == 2 || a == 3 || a == 9 || (a == 0 && (k == 1 || k == 2 || k == 3 || k == 4 || k == 5 || k == 8 || k == 17 || k == 45))
def zWr5 (a k : Nat) : Bool := zWr4 a k || (a == 0 && k == 1)
theorem y4ft_lt {t : List Nat} {f : Nat} (hb : okB t) (h : y4ft t f) : f < 3000 := by
  obtain ⟨m, m1, m2, m3, m4⟩ := h
  have : y4G t m ≤ 2404 := y4F_le (t := t) (n := m) (fr := (y4N t m).2) (y4B_le (t := t) (y4N_le hb m1)).2
  omega
theorem r_forms {M : ZMem} {t : List Nat} (hb : okB t) (ht : tapeR t M) : zOk (f_X12_forms M) (fun r => (∃ n, y4ok t n ∧ r.2 = zI n ∧ formsR n (y4N t n).2 r.1 ∧ r.1.1 0 1 = zI 0 ∧ r.1.1 0 8 = zI 0 ∧ handR zh0 r.1 ∧ r.1.1 0 17 = zI 0 ∧ r.1.1 0 45 = zI 0 ∧ zP zWrf M r.1) ∨ ∃ f, y4ft t f ∧ r.2 = zI (-2 - (f : Int)) ∧ r.1.1 0 1 = zI 0 ∧ zP zWr5 M r.1) := by
  have hl := hb.1
  have m5 : ∀ a k, zWr5 a k = false → zWr4 a k = false := fun a k ha => by
    unfold zWr5 at ha
    rw [Bool.or_eq_false_iff] at ha
    exact ha.1
  have mf : ∀ a k, zWrf a k = false → zWr4 a k = false := fun a k ha => by
    unfold zWrf at ha
    unfold zWr4
    simp at ha ⊢
    omega
  unfold f_X12_forms f_X12_starts
  rw [zb_bnd, zb_bnd, zb_some, zk_bnd, zk_bind]
  have st : zP zWr4 M (zstI (zstI (zstI M 0 2 (zI 0)) 0 3 (zI (-1))) 0 5 (zI 0)) := zP_I (zP_I (zP_I zP_rf rfl) rfl) rfl
  have s2 : (zstI (zstI (zstI M 0 2 (zI 0)) 0 3 (zI (-1))) 0 5 (zI 0)).1 0 2 = zI ((0 : Nat) : Int) := by rw [zm_In _ _ _ _ (by decide), zm_In _ _ _ _ (by decide), zm_Is]; rfl
  have s3 : (zstI (zstI (zstI M 0 2 (zI 0)) 0 3 (zI (-1))) 0 5 (zI 0)).1 0 3 = zI (-1) := by rw [zm_In _ _ _ _ (by decide), zm_Is]
  have s5 : (zstI (zstI (zstI M 0 2 (zI 0)) 0 3 (zI (-1))) 0 5 (zI 0)).1 0 5 = zI ((0 : Nat) : Int) := by rw [zm_Is]; rfl
  generalize zstI (zstI (zstI M 0 2 (zI 0)) 0 3 (zI (-1))) 0 5 (zI 0) = M1 at st s2 s3 s5 ⊢
  refine zOk_mono (r_blanks hb (tapeR_4 st ht) (by omega) s2) (fun M2 g => ?_)
  obtain ⟨g1, g2⟩ := g
  obtain ⟨g1, g3⟩ := g1 (by omega)
  have p2 := zP_tr st (z023_4 (z02_3 g2))
  rw [zk_bind]
  have post : ∀ E : ZMem, ((∃ n, y4ok t n ∧ E.1 0 3 = zI (-1) ∧ E.1 0 5 = zI n ∧ (∀ m, m < n → ∀ r, r < 5 → E.1 3 (5 * m + r) = zI ((y4N t n).2 (5 * m + r))) ∧ zP zWr4 M E) ∨ (∃ f, y4ft t f ∧ E.1 0 3 = zI ((f : Nat) : Int) ∧ zP zWr4 M E)) → zOk (zbnd (zstI E 0 1 (zI 0)) (fun M_41 => zbind (f_X12_isRight M_41) (fun r_45 => if r_45 = (zI 0) then some (M_41, ((zI (-2)) - (M_41.1 0 3))) else zbnd (zstI M_41 0 4 (M_41.1 0 5)) (fun M_64 => zbind (zloop (f_X12_forms_L69) (M_64, (zI 0))) (fun e69 => zbnd (zstI e69 0 8 (zI 0)) (fun M_99 => zbind (f_X12_clearsTold M_99) (fun M_103 => some (M_103, (M_103.1 0 4))))))))) (fun r => (∃ n, y4ok t n ∧ r.2 = zI n ∧ formsR n (y4N t n).2 r.1 ∧ r.1.1 0 1 = zI 0 ∧ r.1.1 0 8 = zI 0 ∧ handR zh0 r.1 ∧ r.1.1 0 17 = zI 0 ∧ r.1.1 0 45 = zI 0 ∧ zP zWrf M r.1) ∨ ∃ f, y4ft t f ∧ r.2 = zI (-2 - (f : Int)) ∧ r.1.1 0 1 = zI 0 ∧ zP zWr5 M r.1) := by
    rintro E (⟨n, n1, n2, n3, n4, n5⟩ | ⟨f, f1, f2, f3⟩)
    · have hn := y4w_20 n1.1
      have h32 := y4N_32 n1.1
      have w3 : (zstI E 0 1 (zI 0)).1 0 3 = zI (-1) := by rw [zm_In _ _ _ _ (by decide)]; exact n2
      have w5 : (zstI E 0 1 (zI 0)).1 0 5 = zI n := by rw [zm_In _ _ _ _ (by decide)]; exact n3
      rw [zk_bnd, r_isR w3, zb_some, if_neg (by decide), w5, zk_bnd, zk_bind]
      have k1 : (zstI (zstI E 0 1 (zI 0)) 0 4 (zI n)).1 0 1 = zI 0 := by rw [zm_In _ _ _ _ (by decide), zm_Is]
      have k4 : (zstI (zstI E 0 1 (zI 0)) 0 4 (zI n)).1 0 4 = zI n := by rw [zm_Is]
      have k3 : ∀ j, j < 5 * n → (zstI (zstI E 0 1 (zI 0)) 0 4 (zI n)).1 3 j = zI ((y4N t n).2 j) := fun j hj => by
        rw [zm_Iq _ _ _ _ (by decide), zm_Iq _ _ _ _ (by decide)]
        have := n4 (j / 5) (by omega) (j % 5) (by omega)
        rwa [show 5 * (j / 5) + j % 5 = j by omega] at this
      have kp : zP zWrf M (zstI (zstI E 0 1 (zI 0)) 0 4 (zI n)) := zP_I (zP_I (zP_mono n5 mf) rfl) rfl
      generalize zstI (zstI E 0 1 (zI 0)) 0 4 (zI n) = E2 at k1 k4 k3 kp ⊢
      refine zOk_for0 (fun i (x : ZMem × Int32) => x.2 = zI i ∧ (∀ j, j < i → x.1.1 2 j = zI ((y4N t n).2 j)) ∧ (∀ a k, a ≠ 2 → x.1.1 a k = E2.1 a k) ∧ zP zWrf M x.1) (5 * n) ?_ ?_ ⟨rfl, fun j hj => absurd hj (Nat.not_lt_zero j), fun a k _ => rfl, kp⟩
      · rintro i ⟨D, x⟩ hi ⟨d1, d2, d3, d4⟩
        dsimp only at d1 d2 d3 d4
        unfold f_X12_forms_L69
        dsimp only
        rw [d1, d3 0 4 (by decide), k4, zI_mul, if_neg (by simp (disch := omega) only [zk_bind, zk_chk, zk_bnd, zk_some, zlp_l, zlp_r, zb_some, zb_bnd, zI_add, zI_sub, zI_mul, zI_neg, zI_le, zI_lt, zI_eq, zI_ix, zI_inI, Int.toNat_natCast, Int.toNat_add, Int.toNat_mul, true_and, and_true]; omega), zI_inI (by omega) (by omega) (by omega), zb_chk, zI_inI (by omega) (by omega) (by omega), zb_chk, zk_bnd, zI_ix (by omega) (by omega), Int.toNat_natCast, zI_add, zk_bnd, zk_some, zlp_l, d3 3 _ (by decide), k3 i hi]
        refine ⟨zI_inj (by omega), fun j hj => ?_, fun a k ha => by rw [zm_Iq _ _ _ _ ha]; exact d3 a k ha, zP_I d4 rfl⟩
        by_cases hji : j = i
        · rw [hji, zm_Is]
        · rw [zm_In _ _ _ _ hji]; exact d2 j (by omega)
      · rintro ⟨D, x⟩ ⟨d1, d2, d3, d4⟩
        dsimp only at d1 d2 d3 d4
        unfold f_X12_forms_L69
        dsimp only
        rw [d1, d3 0 4 (by decide), k4, zI_mul, if_pos (by simp (disch := omega) only [zk_bind, zk_chk, zk_bnd, zk_some, zlp_l, zlp_r, zb_some, zb_bnd, zI_add, zI_sub, zI_mul, zI_neg, zI_le, zI_lt, zI_eq, zI_ix, zI_inI, Int.toNat_natCast, Int.toNat_add, Int.toNat_mul, true_and, and_true]; omega), zk_some, zlp_r, zk_bnd, zk_bind]
        refine zOk_mono (r_clears _) (fun E3 c => ?_)
        obtain ⟨c1, c2, c3, c4⟩ := c
        have e4 : E3.1 0 4 = zI n := by rw [c4.1 0 4 rfl, zm_In _ _ _ _ (by decide), d3 0 4 (by decide)]; exact k4
        rw [zk_some]
        refine Or.inl ⟨n, n1, e4, ⟨hn, e4, fun k hk => ?_, fun k hk => ?_⟩, ?_, ?_, c1, c2, c3, ?_⟩
        · have := h32 (k / 5) (by omega) (k % 5) (by omega)
          rwa [show 5 * (k / 5) + k % 5 = k by omega] at this
        · dsimp only
          rw [c4.1 2 k rfl, zm_Iq _ _ _ _ (by decide)]
          exact d2 k hk
        · dsimp only
          rw [c4.1 0 1 rfl, zm_In _ _ _ _ (by decide), d3 0 1 (by decide)]
          exact k1
        · dsimp only
          rw [c4.1 0 8 rfl, zm_Is]
        · exact zP_tr (zP_I d4 rfl) (zP_mono c4 (fun a k ha => by unfold zWrf at ha; unfold zWcs; simp at ha ⊢; omega))
    · have ff := y4ft_lt hb f1
      have w3 : (zstI E 0 1 (zI 0)).1 0 3 = zI f := by rw [zm_In _ _ _ _ (by decide)]; exact f2
      rw [zk_bnd, r_isWr ff w3, zb_some, if_pos rfl, zk_some, w3, zI_sub]
      exact Or.inr ⟨f, f1, rfl, zm_Is _ _ _ _, zP_I (zP_mono f3 m5) rfl⟩
  refine zOk_forQ (fun n s => (y4w t n ∧ s.1 0 2 = zI (y4b t n) ∧ zch t (y4b t n) ≠ 32 ∧ s.1 0 3 = zI (-1) ∧ s.1 0 5 = zI n ∧ (∀ m, m < n → ∀ r, r < 5 → s.1 3 (5 * m + r) = zI ((y4N t n).2 (5 * m + r))) ∧ zP zWr4 M s) ∨ (∃ f, y4ft t f ∧ s.1 0 3 = zI ((f : Nat) : Int) ∧ zP zWr4 M s)) 21 ?_ ?_ (Or.inl ⟨fun m hm => absurd hm (Nat.not_lt_zero m), g1, g3, by rw [g2.1 0 3 rfl]; exact s3, by rw [g2.1 0 5 rfl]; exact s5, fun m hm => absurd hm (Nat.not_lt_zero m), p2⟩)
  · rintro n s hn21 (⟨e1, e2, e3, e4, e5, e6, e7⟩ | ⟨f, f1, f2, f3⟩) Q hQ hE
    · have hp := y4N_le hb e1
      have hbl : y4b t n ≤ 300 := (y4B_le (t := t) hp).2
      have hz := zch_rng hb (y4b t n)
      unfold f_X12_forms_L13
      rw [r_isR e4, zb_some, if_neg (by decide), r_sign hb (tapeR_4 e7 ht) (by omega) e2, zb_some]
      by_cases c1 : zch t (y4b t n) = -1
      · rw [if_pos (by rw [c1]), zk_some]
        exact hE _ (post s (Or.inl ⟨n, ⟨e1, c1⟩, e4, e5, e6, e7⟩))
      · rw [if_neg (by simp (disch := omega) only [zk_bind, zk_chk, zk_bnd, zk_some, zlp_l, zlp_r, zb_some, zb_bnd, zI_add, zI_sub, zI_mul, zI_neg, zI_le, zI_lt, zI_eq, zI_ix, zI_inI, Int.toNat_natCast, Int.toNat_add, Int.toNat_mul, true_and, and_true]; omega), zk_bind]
        refine zOk_mono (r_readsForm hb (tapeR_4 e7 ht) hbl e3 e2 e4 (by omega) e5 e6 (y4N_32 e1)) (fun E h => ?_)
        rw [zk_bind]
        rcases h with ⟨k1, k2, k3, k4, k5, k6, k7⟩ | ⟨k1, k2, ⟨p, p1, p3⟩, k4⟩
        · have hw := y4w_s e1 c1 k1
          have pE := zP_tr e7 k2
          have k3' : E.1 0 2 = zI (((y4N t (n + 1)).1 : Nat) : Int) := k3
          have hp' := y4N_le hb hw
          refine zOk_mono (r_blanks hb (tapeR_4 pE ht) (by omega) k3') (fun E' g => ?_)
          obtain ⟨j1, j2⟩ := g
          obtain ⟨j1, j3⟩ := j1 hp'
          rw [zk_some]
          refine hQ _ (Or.inl ⟨hw, j1, j3, by rw [j2.1 0 3 rfl]; exact k4, by rw [j2.1 0 5 rfl]; exact k5, fun m hm r hr => ?_, zP_tr pE (z023_4 (z02_3 j2))⟩)
          have hrow : ∀ j, (y4N t (n + 1)).2 j = if 5 * n ≤ j then y4v t (y4b t n) (j - 5 * n) else (y4N t n).2 j := fun j => rfl
          rw [j2.1 3 _ rfl, hrow]
          by_cases hmn : m = n
          · rw [hmn, if_pos (by omega), show 5 * n + r - 5 * n = r by omega]
            exact k6 r hr
          · rw [if_neg (by omega), k7 _ (by omega)]
            exact e6 m (by omega) r hr
        · have pE := zP_tr e7 k4
          refine zOk_mono (r_blanks hb (tapeR_4 pE ht) (by omega) p3) (fun E' g => ?_)
          rw [zk_some]
          exact hQ _ (Or.inr ⟨y4G t n, ⟨n, e1, c1, k1, rfl⟩, by rw [g.2.1 0 3 rfl]; exact k2, zP_tr pE (z023_4 (z02_3 g.2))⟩)
    · have ff := y4ft_lt hb f1
      unfold f_X12_forms_L13
      rw [r_isWr ff f2, zb_some, if_pos rfl, zk_some]
      exact hE _ (post s (Or.inr ⟨f, f1, f2, f3⟩))
  · rintro s (⟨e1, _⟩ | ⟨f, f1, f2, f3⟩)
    · exact absurd (y4w_20 e1) (by omega)
    · have ff := y4ft_lt hb f1
      refine ⟨s, ?_, post s (Or.inr ⟨f, f1, f2, f3⟩)⟩
      unfold f_X12_forms_L13
      rw [r_isWr ff f2, zb_some, if_pos rfl]
theorem zguess_0 : zguess zh0 = 0 := by
  unfold zguess
  refine zsum_zero (fun f hf => zb_f (fun hh => hh ?_))
  unfold zh0
  rw [if_neg (by omega), if_neg (by omega), if_neg (by omega), if_pos (by omega)]
theorem okH_0 (F : Nat) : okH F zh0 := by
  refine ⟨by decide, by decide, by decide, by decide, fun f hf => ?_, fun k hk => ?_, fun k hk => ?_⟩
  · have : zh0 (4 + f) = -1 := by
      unfold zh0
      rw [if_neg (by omega), if_neg (by omega), if_neg (by omega), if_pos (by omega)]
    rw [this]
    exact ⟨by omega, by omega, fun _ => rfl⟩
  · have : zh0 (24 + k) = 0 := by
      unfold zh0
      rw [if_neg (by omega), if_neg (by omega), if_neg (by omega), if_neg (by omega)]
    rw [this]
    exact ⟨by omega, by omega⟩
  · have : zh0 3 = 0 := rfl
    rw [this] at hk
    omega
def zWsa (a k : Nat) : Bool := a == 21 || a == 22 || a == 26 || (a == 20 && (k == 9 || k == 10 || k == 11))
theorem c_startAnew (M : ZMem) : zOk (f_X1_startAnew M) (fun M' => setC zh0 M' ∧ clueC zh0 M' ∧ M'.1 20 11 = zI 0 ∧ zP zWsa M M') := by
  unfold f_X1_startAnew
  have z0 : zix (zI 0) = 0 := rfl
  have z1 : zix (zI 1) = 1 := rfl
  have z2 : zix (zI 2) = 2 := rfl
  rw [z0, z1, z2, zk_bnd, zk_bnd, zk_bnd, zk_bind]
  have p0 : zP zWsa M (zstI (zstI (zstI M 21 0 (zI 2)) 21 1 (zI 3)) 21 2 (zI 2)) := zP_I (zP_I (zP_I zP_rf rfl) rfl) rfl
  have v0 : (zstI (zstI (zstI M 21 0 (zI 2)) 21 1 (zI 3)) 21 2 (zI 2)).1 21 0 = zI 2 := by rw [zm_In _ _ _ _ (by decide), zm_In _ _ _ _ (by decide), zm_Is]
  have v1 : (zstI (zstI (zstI M 21 0 (zI 2)) 21 1 (zI 3)) 21 2 (zI 2)).1 21 1 = zI 3 := by rw [zm_In _ _ _ _ (by decide), zm_Is]
  have v2 : (zstI (zstI (zstI M 21 0 (zI 2)) 21 1 (zI 3)) 21 2 (zI 2)).1 21 2 = zI 2 := by rw [zm_Is]
  generalize zstI (zstI (zstI M 21 0 (zI 2)) 21 1 (zI 3)) 21 2 (zI 2) = N at p0 v0 v1 v2 ⊢
  refine zOk_mono (zp_fill 22 400 (by omega) _ _) (fun M1 h1 => ?_)
  obtain ⟨a1, a2, a3, a4⟩ := h1
  rw [zk_bind]
  refine zOk_mono (zp_fill 26 20 (by omega) _ _) (fun M2 h2 => ?_)
  obtain ⟨b1, b2, b3, b4⟩ := h2
  rw [zk_bnd, zk_bnd, zk_bnd, zk_some]
  have w : ∀ a, a ≠ 20 → (zstI (zstI (zstI M2 20 9 (zI 0)) 20 10 (zI 0)) 20 11 (zI 0)).1 a = M2.1 a := fun a ha => by rw [zm_Iq _ _ _ _ ha, zm_Iq _ _ _ _ ha, zm_Iq _ _ _ _ ha]
  have h24 : ∀ k, k < 400 → zh0 (24 + k) = 0 := fun k hk => by
    unfold zh0
    rw [if_neg (by omega), if_neg (by omega), if_neg (by omega), if_neg (by omega)]
  have h4 : ∀ f, f < 20 → zh0 (4 + f) = -1 := fun f hf => by
    unfold zh0
    rw [if_neg (by omega), if_neg (by omega), if_neg (by omega), if_pos (by omega)]
  refine ⟨⟨?_, ?_, ?_, fun k hk => ?_⟩, ⟨?_, fun k hk => ?_, fun f hf => ?_, ?_⟩, zm_Is _ _ _ _, ?_⟩
  · rw [w 21 (by decide), b3 21 (by decide), a3 21 (by decide)]; exact v0
  · rw [w 21 (by decide), b3 21 (by decide), a3 21 (by decide)]; exact v1
  · rw [w 21 (by decide), b3 21 (by decide), a3 21 (by decide)]; exact v2
  · rw [w 22 (by decide), b3 22 (by decide), h24 k hk]; exact a1 k hk
  · rw [zm_In _ _ _ _ (by decide), zm_In _ _ _ _ (by decide), zm_Is]; rfl
  · have : zh0 3 = 0 := rfl
    rw [this] at hk
    omega
  · rw [w 26 (by decide), h4 f hf]; exact b1 f hf
  · rw [zm_In _ _ _ _ (by decide), zm_Is, zguess_0]; rfl
  · refine zP_I (zP_I (zP_I (zP_tr p0 ⟨fun a k ha => ?_, by rw [b4, a4]⟩) rfl) rfl) rfl
    have h22 : a ≠ 22 := fun hh => by rw [hh] at ha; exact absurd ha (by unfold zWsa; simp)
    have h26 : a ≠ 26 := fun hh => by rw [hh] at ha; exact absurd ha (by unfold zWsa; simp)
    rw [b3 a h26, a3 a h22]
abbrev zs0 : ZS := (0, fun _ => 0, fun _ => 0, fun _ => 0, fun _ => 0, fun _ => 0)
theorem zex_0 (q : Nat) : ¬ zex zs0 q := fun h => absurd h.1 (Nat.not_lt_zero _)
theorem okS_0 (F : Nat) : okS F zs0 := ⟨Nat.zero_le 6, fun t ht => absurd ht (Nat.not_lt_zero t), fun q hq => absurd hq (zex_0 q)⟩
theorem stonesC_0 {C : ZMem} (h : C.1 11 5 = zI 0) : stonesC zs0 C := ⟨h, fun t ht => absurd ht (Nat.not_lt_zero t), fun q hq => absurd hq (zex_0 q)⟩
theorem stonesR_0 {R : ZMem} (h : R.1 0 8 = zI 0) : stonesR zs0 R := ⟨h, fun t ht => absurd ht (Nat.not_lt_zero t), fun q hq => absurd hq (zex_0 q)⟩
theorem zp_forms : zPr_forms zRel := by
  rintro M1 M2 ⟨σ, ho, hc, hr⟩
  have hb : okB (gT σ) := ho.1
  have hlen := hb.1
  unfold f_X11_forms
  rw [zk_bind]
  refine zOk_mono (c_takeForms hb hc.1) (fun r k => ?_)
  obtain ⟨C, v⟩ := r
  dsimp only at k ⊢
  have hC1 : C.1 1 1 = zI ((gT σ).length : Int) := by
    rcases k with ⟨n, _, _, _, _, hp⟩ | ⟨f, _, _, hp⟩
    · rw [hp.1 1 1 rfl]; exact hc.1.1
    · rw [hp.1 1 1 rfl]; exact hc.1.1
  rw [c_cutTo hC1 hlen (by omega) (by omega), if_pos (by omega), zb_some]
  (try dsimp only)
  rcases k with ⟨n, n1, n2, n3, n4, n5⟩ | ⟨f, f1, f2, f3⟩
  · have hn20 := n3.1
    unfold f_X7_startAnew
    rw [n2, if_neg (by simp (disch := omega) only [zk_bind, zk_chk, zk_bnd, zk_some, zlp_l, zlp_r, zb_some, zb_bnd, zI_add, zI_sub, zI_mul, zI_neg, zI_le, zI_lt, zI_eq, zI_ix, zI_inI, Int.toNat_natCast, Int.toNat_add, Int.toNat_mul, true_and, and_true]; omega), zb_bnd, zb_some, zk_bind]
    refine zOk_mono (c_startAnew _) (fun D d => ?_)
    obtain ⟨d1, d2, d3, d4⟩ := d
    rw [zk_bnd, zk_some]
    refine zOk_mono (r_forms hb hr.1) (fun r2 j => ?_)
    rcases j with ⟨m, m1, m2, m3, m4, m5, m6, m7, m8, m9⟩ | ⟨f, f1, _⟩
    · have hmn := y4ok_one n1 m1
      subst hmn
      -- what the class keeps
      have pD : ∀ a k, zWsa a k = false → (a ≠ 1 ∧ a ≠ 11) → (zstI D 0 13 (zI 1)).1 a k = if a = 0 ∧ k = 13 then zI 1 else C.1 a k := fun a k h1 h2 => by
        rw [zm_I]
        by_cases h0 : a = 0 ∧ k = 13
        · rw [if_pos h0, if_pos h0]
        · rw [if_neg h0, if_neg h0, d4.1 a k h1, zm_Iq _ _ _ _ h2.2, zm_Iq _ _ _ _ h2.1]
      have qD : ∀ a k, zWsa a k = false → a ≠ 1 → a ≠ 11 → ¬ (a = 0 ∧ k = 13) → (zstI D 0 13 (zI 1)).1 a k = C.1 a k := fun a k h1 h2 h3 h4 => by rw [pD a k h1 ⟨h2, h3⟩, if_neg h4]
      have qM : ∀ a k, zWsa a k = false → a ≠ 1 → a ≠ 11 → ¬ (a = 0 ∧ k = 13) → zWtk a k = false → (zstI D 0 13 (zI 1)).1 a k = M1.1 a k := fun a k h1 h2 h3 h4 h5 => by rw [qD a k h1 h2 h3 h4, n5.1 a k h5]
      refine ⟨by rw [m2], ([], (n, (y4N (gT σ) n).2), zs0, σ.2.2.2.1, (0, fun _ => zh0), gx σ), ⟨⟨Nat.zero_le 300, fun i hi => absurd hi (Nat.not_lt_zero i)⟩, n3.1, okS_0 n, ho.2.2.2.1, Nat.zero_le 20, fun p _ => okH_0 n, ho.2.2.2.2.2.2⟩, ⟨⟨?_, fun i hi => absurd hi (Nat.not_lt_zero i)⟩, ⟨?_, stonesC_0 ?_, setC_x (fun a k ha => ?_) d1, clueC_x (fun a k ha => ?_) d2, namesC_x ?_ (fun k => ?_) (fun k => ?_) hc.2.1.2.2.2.2.1, ?_, ?_⟩, ?_, ⟨?_, fun p hp => absurd hp (Nat.not_lt_zero p)⟩, ?_, ⟨Or.inr (zm_Is _ _ _ _), ?_, ?_⟩, fun h13 => absurd ((zm_Is _ _ _ _).symm.trans h13) (by decide), fun h13 => absurd ((zm_Is _ _ _ _).symm.trans h13) (by decide), fun h13 => absurd ((zm_Is _ _ _ _).symm.trans h13) (by decide)⟩, ⟨⟨m4, fun i hi => absurd hi (Nat.not_lt_zero i)⟩, m3, stonesR_0 m5, ?_, m6, ⟨m7, fun p k hp => absurd hp (Nat.not_lt_zero p)⟩, ?_, Or.inl m8, fun hh => absurd (m8.symm.trans hh) (by decide)⟩⟩
      · rw [zm_Iq _ _ _ _ (by decide), d4.1 1 1 rfl, zm_Iq _ _ _ _ (by decide), zm_Is]
        rfl
      · refine formsC_x (fun a k ha => ?_) n3
        unfold dformsC at ha
        simp at ha
        exact qD a k (by unfold zWsa; simp; omega) (by omega) (by omega) (by omega)
      · rw [zm_Iq _ _ _ _ (by decide), d4.1 11 5 rfl, zm_Is]
      · unfold dsetC at ha
        simp at ha
        rw [zm_Iq _ _ _ _ (by omega)]
      · unfold dclueC at ha
        simp at ha
        rw [zm_Iq _ _ _ _ (by omega)]
      · exact qM 17 2 rfl (by decide) (by decide) (by decide) rfl
      · exact qM 18 k rfl (by decide) (by decide) (by omega) rfl
      · exact qM 19 k rfl (by decide) (by decide) (by omega) rfl
      · rw [qM 41 0 rfl (by decide) (by decide) (by decide) rfl]
        exact hc.2.1.2.2.2.2.2.1
      · rw [qM 45 0 rfl (by decide) (by decide) (by decide) rfl]
        exact hc.2.1.2.2.2.2.2.2
      · refine ⟨by rw [qD 3 10 rfl (by decide) (by decide) (by decide)]; exact n4.1, fun k hk => ?_⟩
        rw [qD 7 _ rfl (by decide) (by decide) (by omega), qD 7 _ rfl (by decide) (by decide) (by omega)]
        exact n4.2 k hk
      · rw [zm_Iq _ _ _ _ (by decide)]
        exact d3
      · rw [qM 0 12 rfl (by decide) (by decide) (by decide) rfl]
        exact hc.2.2.2.2.1
      · rw [qM 0 14 rfl (by decide) (by decide) (by decide) rfl]
        exact hc.2.2.2.2.2.1.2.1
      · rw [qM 0 15 rfl (by decide) (by decide) (by decide) rfl]
        exact hc.2.2.2.2.2.1.2.2
      · have hN := hr.2.2.2.1
        exact ⟨by rw [m9.1 0 12 rfl]; exact hN.1, fun k hk => ⟨by rw [m9.1 7 k rfl]; exact (hN.2 k hk).1, fun i hi => by rw [m9.1 8 _ rfl]; exact (hN.2 k hk).2 i hi⟩⟩
      · rw [m9.1 0 41 rfl]
        exact hr.2.2.2.2.2.2.1
    · exact (y4ft_ok f1 n1).elim
  · have ff := y4ft_lt hb f1
    rw [f2, if_pos (by simp (disch := omega) only [zk_bind, zk_chk, zk_bnd, zk_some, zlp_l, zlp_r, zb_some, zb_bnd, zI_add, zI_sub, zI_mul, zI_neg, zI_le, zI_lt, zI_eq, zI_ix, zI_inI, Int.toNat_natCast, Int.toNat_add, Int.toNat_mul, true_and, and_true]; omega), zk_some]
    refine zOk_mono (r_forms hb hr.1) (fun r2 j => ?_)
    rcases j with ⟨m, m1, _⟩ | ⟨f', g1, g2, g3, g4⟩
    · exact (y4ft_ok f1 m1).elim
    · refine ⟨by rw [g2, y4ft_one f1 g1], zTX σ [] (gx σ), okT_0 ho, relC_y (zP_I (zP_mono f3 (fun a k ha => ?_)) rfl) ⟨zm_Is _ _ _ _, fun i hi => absurd hi (Nat.not_lt_zero i)⟩ ?_ hc, relR_y (zP_mono g4 (fun a k ha => ?_)) ⟨g3, fun i hi => absurd hi (Nat.not_lt_zero i)⟩ ?_ hr⟩
      · unfold zScCy zScC at ha
        unfold zW4
        simp at ha ⊢
        omega
      · rw [zm_Iq _ _ _ _ (by decide), f3.1 0 12 rfl]
        exact hc.2.2.2.2.1
      · unfold zScRy zScR at ha
        unfold zWr5 zWr4
        simp at ha ⊢
        omega
      · rw [g4.1 0 41 rfl]
        exact hr.2.2.2.2.2.2.1
