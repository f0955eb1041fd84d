/-! ===== clues by words: the reference ===== deps: 97.l.cmp2 -/
def cluR (P : Nat → Nat → Nat → Prop) (R : ZMem) : Prop := ∀ kind a b, kind < 2 → a < 20 → b < 20 → R.1 22 (20 * (20 * kind + a) + b) = zI (zb (P kind a b))
theorem cluR_cg {P P' : Nat → Nat → Nat → Prop} {R : ZMem} (h : cluR P R) (e : ∀ kind a b, kind < 2 → a < 20 → b < 20 → (P kind a b ↔ P' kind a b)) : cluR P' R := fun kind a b h1 h2 h3 => by rw [h kind a b h1 h2 h3, zb_iff (e kind a b h1 h2 h3)]
theorem zbool1 : vp_nar .boolean (zI 1) = zI 1 := by decide
theorem zbool0 : vp_nar .boolean (zI 0) = zI 0 := by decide
theorem r_tellsClue {M : ZMem} {P : Nat → Nat → Nat → Prop} (h : cluR P M) {k x y : Nat} (hk : k < 2) (hx : x < 20) (hy : y < 20) : zOk (f_X12_tellsClue M (zI k) (zI x) (zI y)) (fun M' => cluR (fun kind a b => P kind a b ∨ (kind = k ∧ x ≠ y ∧ ((a = x ∧ b = y) ∨ (a = y ∧ b = x)))) M' ∧ zP (fun a _ => a == 22) M M') := by
  unfold f_X12_tellsClue f_X12_clueAt
  by_cases he : x = y
  · rw [if_pos (by rw [he]), zk_some]
    exact ⟨cluR_cg h (fun kind a b _ _ _ => ⟨Or.inl, fun hh => hh.elim id (fun hh => absurd he hh.2.1)⟩), zP_rf⟩
  · rw [if_neg (by simp (disch := omega) only [zk_bind, zk_chk, zk_bnd, zk_some, zlp_l, zlp_r, zb_some, zb_bnd, zI_add, zI_sub, zI_mul, zI_neg, zI_le, zI_lt, zI_eq, zI_ix, zI_inI, Int.toNat_natCast, Int.toNat_add, Int.toNat_mul, true_and, and_true]; omega), zb_some, zI_mul, zI_add, zI_mul, zI_add, zI_inI (by omega) (by omega) (by omega), zb_chk, zk_bnd, zb_some, zI_add, zI_mul, zI_add, zI_inI (by omega) (by omega) (by omega), zb_chk, zk_bnd, zk_some, zI_ix (by omega) (by omega), zI_ix (by omega) (by omega), zbool1, show (20 * (20 * (k : Int) + x) + y).toNat = 20 * (20 * k + x) + y by omega, show (20 * (20 * (k : Int) + y) + x).toNat = 20 * (20 * k + y) + x by omega]
    refine ⟨fun kind a b h1 h2 h3 => ?_, zP_I (zP_I zP_rf rfl) rfl⟩
    rw [zm_I]
    by_cases c1 : kind = k ∧ a = y ∧ b = x
    · rw [if_pos ⟨rfl, by rw [c1.1, c1.2.1, c1.2.2]⟩, zb_t (Or.inr ⟨c1.1, he, Or.inr c1.2⟩)]; rfl
    · rw [if_neg (fun hh => c1 (by omega)), zm_I]
      by_cases c2 : kind = k ∧ a = x ∧ b = y
      · rw [if_pos ⟨rfl, by rw [c2.1, c2.2.1, c2.2.2]⟩, zb_t (Or.inr ⟨c2.1, he, Or.inl c2.2⟩)]; rfl
      · rw [if_neg (fun hh => c2 (by omega)), h kind a b h1 h2 h3]
        rw [zb_iff]
        exact ⟨Or.inl, fun hh => hh.elim id (fun hh => hh.2.2.elim (fun hh' => absurd ⟨hh.1, hh'⟩ c2) (fun hh' => absurd ⟨hh.1, hh'⟩ c1))⟩
theorem lexR_w {l : List (Nat × Nat)} {M : ZMem} (h : lexR l M) {i : Nat} (hi : i < l.length) : M.1 16 i = zI (zN l i) ∧ ∀ k, k < 7 → M.1 17 (7 * i + k) = zI ((zdg (zK l i) k : Int) - 1) := ⟨(h.2 i hi).1, fun k hk => by rw [(h.2 i hi).2.2 k hk]; exact zI_inj (zks_lt hk)⟩
theorem r_unlikePlaces {M : ZMem} {l : List (Nat × Nat)} (ho : okL l) (h : lexR l M) {i j : Nat} (hi : i < l.length) (hj : j < l.length) : f_X12_unlikePlaces M (zI i) (zI j) = some (zI (zsum (zN l i) (fun k => zb (zdg (zK l i) k ≠ zdg (zK l j) k)))) := by
  have hlen := ho.1
  have w := (okL_W ho hi).2.2.1
  obtain ⟨a1, a2⟩ := lexR_w h hi
  obtain ⟨b1, b2⟩ := lexR_w h hj
  apply zOk_is
  unfold f_X12_unlikePlaces
  rw [zk_bind]
  refine zOk_forQ (fun k x => x = (zI (zsum k (fun k => zb (zdg (zK l i) k ≠ zdg (zK l j) k))), zI k)) (zN l i) ?_ ?_ rfl
  · rintro k x hk rfl Q hQ _
    have d1 := zdg_lt (zK l i) k
    have d2 := zdg_lt (zK l j) k
    have key : ∀ v : Nat, v ≤ 1 → v = zb (zdg (zK l i) k ≠ zdg (zK l j) k) → zOk (f_X12_unlikePlaces_49_L5 M (zI i) (zI j) (zI k) (zI (zsum k (fun k => zb (zdg (zK l i) k ≠ zdg (zK l j) k)))) (zI v)) Q := by
      intro v hv1 hv
      unfold f_X12_unlikePlaces_49_L5
      rw [r_truth, zb_some, zk_bnd, zk_bnd, zk_some, zI_add]
      refine hQ _ (Prod.ext ?_ (zI_inj (by omega)))
      dsimp only
      rw [zsum_s, ← hv]
      by_cases h0 : v = 0
      · rw [if_pos (by rw [h0]; rfl), zI_add]; exact zI_inj (by omega)
      · rw [if_neg (by simp (disch := omega) only [zk_bind, zk_chk, zk_bnd, zk_some, zlp_l, zlp_r, zb_some, zb_bnd, zI_add, zI_sub, zI_mul, zI_neg, zI_le, zI_lt, zI_eq, zI_ix, zI_inI, Int.toNat_natCast, Int.toNat_add, Int.toNat_mul, true_and, and_true]; omega), zI_add]; exact zI_inj (by omega)
    unfold f_X12_unlikePlaces_L5
    dsimp only
    rw [zI_inI (by omega) (by omega) (by omega), zb_chk, zI_ix (by omega) (by omega), Int.toNat_natCast, a1, if_neg (by simp (disch := omega) only [zk_bind, zk_chk, zk_bnd, zk_some, zlp_l, zlp_r, zb_some, zb_bnd, zI_add, zI_sub, zI_mul, zI_neg, zI_le, zI_lt, zI_eq, zI_ix, zI_inI, Int.toNat_natCast, Int.toNat_add, Int.toNat_mul, true_and, and_true]; omega), zI_mul, zI_add, zI_inI (by omega) (by omega) (by omega), zb_chk, zI_mul, zI_add, zI_inI (by omega) (by omega) (by omega), zb_chk, zI_ix (by omega) (by omega), zI_ix (by omega) (by omega), show (7 * (i : Int) + k).toNat = 7 * i + k by omega, show (7 * (j : Int) + k).toNat = 7 * j + k by omega, a2 k (by omega), b2 k (by omega)]
    by_cases hc : zdg (zK l i) k = zdg (zK l j) k
    · rw [if_pos (by rw [hc])]
      exact key 0 (by omega) (zb_f (fun hh => hh hc)).symm
    · rw [if_neg (by simp (disch := omega) only [zk_bind, zk_chk, zk_bnd, zk_some, zlp_l, zlp_r, zb_some, zb_bnd, zI_add, zI_sub, zI_mul, zI_neg, zI_le, zI_lt, zI_eq, zI_ix, zI_inI, Int.toNat_natCast, Int.toNat_add, Int.toNat_mul, true_and, and_true]; omega)]
      exact key 1 (by omega) (zb_t hc).symm
  · rintro x rfl
    refine ⟨zI (zsum (zN l i) (fun k => zb (zdg (zK l i) k ≠ zdg (zK l j) k))), ?_, ?_⟩
    · unfold f_X12_unlikePlaces_L5
      dsimp only
      rw [zI_inI (by omega) (by omega) (by omega), zb_chk, zI_ix (by omega) (by omega), Int.toNat_natCast, a1, if_pos (by simp (disch := omega) only [zk_bind, zk_chk, zk_bnd, zk_some, zlp_l, zlp_r, zb_some, zb_bnd, zI_add, zI_sub, zI_mul, zI_neg, zI_le, zI_lt, zI_eq, zI_ix, zI_inI, Int.toNat_natCast, Int.toNat_add, Int.toNat_mul, true_and, and_true]; omega)]
    · rw [zk_some]
/-- unlike at one place alone, and there -/
theorem zdif_iff {l : List (Nat × Nat)} (ho : okL l) {i j : Nat} (hij : i < j) (hj : j < l.length) (hn : zN l i = zN l j) (hn2 : 2 ≤ zN l i) (kind : Nat) : zdif l kind i j ↔ zsum (zN l i) (fun k => zb (zdg (zK l i) k ≠ zdg (zK l j) k)) = 1 ∧ zdg (zK l i) (zpos l kind i) ≠ zdg (zK l j) (zpos l kind i) := by
  have hi : i < l.length := by omega
  obtain ⟨_, wi⟩ := okL_W ho hi
  obtain ⟨_, wj⟩ := okL_W ho hj
  have hp := zpos_lt ho hi kind
  constructor
  · intro hd
    have hne := zdif_ne ho hij hj hd
    have r1 := zS_rng ho hi kind
    have r2 := zS_rng ho hj kind
    rw [← zdif_pos (kind := kind) hn] at r2
    have hd2 := (zclr_iff hp.1 wi.1 wj.1).mp hd.2.2
    refine ⟨?_, by omega⟩
    have h1 : zsum (zN l i) (fun k => zb (zdg (zK l i) k ≠ zdg (zK l j) k)) ≤ 1 := zsum_one (fun x y hx hy p1 p2 => by
      by_cases c1 : x = zpos l kind i
      · by_cases c2 : y = zpos l kind i
        · omega
        · exact absurd (hd2 y (by have := wi.2.1; omega) c2) p2
      · exact absurd (hd2 x (by have := wi.2.1; omega) c1) p1)
    have h2 := zsum_pos (f := fun k => zb (zdg (zK l i) k ≠ zdg (zK l j) k)) hp.2
    have h3 : zb (zdg (zK l i) (zpos l kind i) ≠ zdg (zK l j) (zpos l kind i)) = 1 := zb_t (by omega)
    rw [h3] at h2
    omega
  · rintro ⟨h1, h2⟩
    refine ⟨hn, hn2, (zclr_iff hp.1 wi.1 wj.1).mpr (fun t ht htp => ?_)⟩
    by_cases hc : t < zN l i
    · by_cases he : zdg (zK l i) t = zdg (zK l j) t
      · exact he
      · have : 2 ≤ zsum (zN l i) (fun k => zb (zdg (zK l i) k ≠ zdg (zK l j) k)) := by
          rcases Nat.lt_or_gt_of_ne htp with hlt | hgt
          · exact zsum_two (P := fun k => zdg (zK l i) k ≠ zdg (zK l j) k) hlt hp.2 he h2
          · exact zsum_two (P := fun k => zdg (zK l i) k ≠ zdg (zK l j) k) hgt hc h2 he
        omega
    · rw [wi.2.2.2 t (by omega) ht, wj.2.2.2 t (by omega) ht]
theorem r_cluesOf {M : ZMem} {l : List (Nat × Nat)} {D : Nat → Nat → Prop} (ho : okL l) (hl : lexR l M) (h : cluR (zcwD l D) M) {i j : Nat} (hij : i < j) (hj : j < l.length) : zOk (f_X12_cluesOf M (zI i) (zI j)) (fun M' => cluR (zcwD l (fun x y => D x y ∨ (x = i ∧ y = j))) M' ∧ zP (fun a _ => a == 22) M M') := by
  have hi : i < l.length := by omega
  have hlen := ho.1
  obtain ⟨wi1, wi⟩ := okL_W ho hi
  obtain ⟨wj1, wj⟩ := okL_W ho hj
  have wi7 := wi.2.1
  have wj7 := wj.2.1
  obtain ⟨a1, a2⟩ := lexR_w hl hi
  obtain ⟨b1, b2⟩ := lexR_w hl hj
  have none_ : (∀ kind, ¬ zdif l kind i j) → zOk (some M) (fun M' => cluR (zcwD l (fun x y => D x y ∨ (x = i ∧ y = j))) M' ∧ zP (fun a _ => a == 22) M M') := fun hno => zk_some.mpr ⟨cluR_cg h (fun kind a b _ _ _ => (zcwD_no (hno kind)).symm), zP_rf⟩
  unfold f_X12_cluesOf
  rw [zI_inI (by omega) (by omega) (by omega), zb_chk, zI_ix (by omega) (by omega), Int.toNat_natCast, a1, zk_bnd]
  by_cases c1 : zN l i < 2
  · rw [if_pos (by simp (disch := omega) only [zk_bind, zk_chk, zk_bnd, zk_some, zlp_l, zlp_r, zb_some, zb_bnd, zI_add, zI_sub, zI_mul, zI_neg, zI_le, zI_lt, zI_eq, zI_ix, zI_inI, Int.toNat_natCast, Int.toNat_add, Int.toNat_mul, true_and, and_true]; omega)]
    exact none_ (fun kind hd => by have := hd.2.1; omega)
  · rw [if_neg (by simp (disch := omega) only [zk_bind, zk_chk, zk_bnd, zk_some, zlp_l, zlp_r, zb_some, zb_bnd, zI_add, zI_sub, zI_mul, zI_neg, zI_le, zI_lt, zI_eq, zI_ix, zI_inI, Int.toNat_natCast, Int.toNat_add, Int.toNat_mul, true_and, and_true]; omega), zI_inI (by omega) (by omega) (by omega), zb_chk, zI_ix (by omega) (by omega), Int.toNat_natCast, b1]
    by_cases c2 : zN l i = zN l j
    · have hiff := zdif_iff ho hij hj c2 (by omega)
      have hsl := zsum_le1 (n := zN l i) (f := fun k => zb (zdg (zK l i) k ≠ zdg (zK l j) k)) (fun _ _ => zb_le _)
      rw [if_pos (by rw [c2]), r_unlikePlaces ho hl hi hj, zb_some]
      by_cases c3 : zsum (zN l i) (fun k => zb (zdg (zK l i) k ≠ zdg (zK l j) k)) = 1
      · have hp0 : zpos l 0 i = zN l i - 1 := by unfold zpos; rw [if_pos rfl]
        have hp1 : zpos l 1 i = 0 := by unfold zpos; rw [if_neg (by decide)]
        have hp0j : zpos l 0 j = zN l i - 1 := by unfold zpos; rw [if_pos rfl, c2]
        have hp1j : zpos l 1 j = 0 := by unfold zpos; rw [if_neg (by decide)]
        have s0i := zS_rng ho hi 0
        have s0j := zS_rng ho hj 0
        have s1i := zS_rng ho hi 1
        have s1j := zS_rng ho hj 1
        rw [hp0] at s0i
        rw [hp0j] at s0j
        rw [hp1] at s1i
        rw [hp1j] at s1j
        have i0 := hiff 0
        have i1 := hiff 1
        rw [hp0] at i0
        rw [hp1] at i1
        -- the second half
        have half : ∀ N : ZMem, zP (fun a _ => a == 22) M N → cluR (fun kind a b => if kind = 0 then zcwD l (fun x y => D x y ∨ (x = i ∧ y = j)) 0 a b else zcwD l D kind a b) N → zOk (f_X12_cluesOf_91 N (zI i) (zI j)) (fun M' => cluR (zcwD l (fun x y => D x y ∨ (x = i ∧ y = j))) M' ∧ zP (fun a _ => a == 22) M M') := by
          intro N n1 n2
          have x0 := a2 0 (by omega)
          have y0 := b2 0 (by omega)
          rw [Nat.add_zero] at x0 y0
          unfold f_X12_cluesOf_91
          rw [zI_mul, zI_mul, zI_inI (by omega) (by omega) (by omega), zb_chk, zI_inI (by omega) (by omega) (by omega), zb_chk, zb_chk, zb_chk, zI_ix (by omega) (by omega), zI_ix (by omega) (by omega), show (7 * (i : Int)).toNat = 7 * i by omega, show (7 * (j : Int)).toNat = 7 * j by omega, n1.1 17 _ rfl, n1.1 17 _ rfl, x0, y0]
          by_cases c4 : zdg (zK l i) 0 = zdg (zK l j) 0
          · rw [if_pos (by rw [c4]), zk_some]
            have hno : ¬ zdif l 1 i j := fun hd => (i1.mp hd).2 c4
            refine ⟨cluR_cg n2 (fun kind a b hk _ _ => ?_), n1⟩
            by_cases hk0 : kind = 0
            · rw [if_pos hk0, hk0]
            · rw [if_neg hk0, show kind = 1 by omega]
              exact (zcwD_no hno).symm
          · have hd : zdif l 1 i j := i1.mpr ⟨c3, c4⟩
            rw [if_neg (by have := zdg_lt (zK l i) 0; have := zdg_lt (zK l j) 0; simp (disch := omega) only [zk_bind, zk_chk, zk_bnd, zk_some, zlp_l, zlp_r, zb_some, zb_bnd, zI_add, zI_sub, zI_mul, zI_neg, zI_le, zI_lt, zI_eq, zI_ix, zI_inI, Int.toNat_natCast, Int.toNat_add, Int.toNat_mul, true_and, and_true]; omega), s1i.2, s1j.2, show (((zS l 1 i + 1 : Nat) : Int) - 1) = ((zS l 1 i : Nat) : Int) by omega, show (((zS l 1 j + 1 : Nat) : Int) - 1) = ((zS l 1 j : Nat) : Int) by omega, show zI 1 = zI ((1 : Nat) : Int) from rfl, zk_bind]
            refine zOk_mono (r_tellsClue n2 (by decide) s1i.1 s1j.1) (fun M2 h2 => ?_)
            rw [zk_some]
            refine ⟨cluR_cg h2.1 (fun kind a b hk _ _ => ?_), zP_tr n1 h2.2⟩
            by_cases hk0 : kind = 0
            · rw [if_pos hk0, hk0]
              exact ⟨fun hh => hh.elim id (fun hh => by omega), Or.inl⟩
            · have hk1 : kind = 1 := by omega
              rw [if_neg hk0, hk1, zcwD_or ho hij hj hd]
              exact or_congr Iff.rfl ⟨fun hh => hh.2, fun hh => ⟨rfl, hh⟩⟩
        rw [if_pos (by rw [c3]; rfl), zI_mul, zI_add, zI_sub, zk_bnd, zI_mul, zI_add, zI_sub, show (7 * (i : Int) + (zN l i : Int) - 1) = ((7 * i + (zN l i - 1) : Nat) : Int) by omega, show (7 * (j : Int) + (zN l i : Int) - 1) = ((7 * j + (zN l i - 1) : Nat) : Int) by omega, zI_inI (by omega) (by omega) (by omega), zb_chk, zI_inI (by omega) (by omega) (by omega), zb_chk, zb_chk, zb_chk, zI_ix (by omega) (by omega), zI_ix (by omega) (by omega), Int.toNat_natCast, Int.toNat_natCast, a2 _ (by omega), b2 _ (by omega)]
        by_cases c4 : zdg (zK l i) (zN l i - 1) = zdg (zK l j) (zN l i - 1)
        · rw [if_pos (by rw [c4])]
          have hno : ¬ zdif l 0 i j := fun hd => (i0.mp hd).2 c4
          refine half M zP_rf (cluR_cg h (fun kind a b _ _ _ => ?_))
          by_cases hk0 : kind = 0
          · rw [if_pos hk0, hk0]
            exact (zcwD_no hno).symm
          · rw [if_neg hk0]
        · have hd : zdif l 0 i j := i0.mpr ⟨c3, c4⟩
          rw [if_neg (by have := zdg_lt (zK l i) (zN l i - 1); have := zdg_lt (zK l j) (zN l i - 1); simp (disch := omega) only [zk_bind, zk_chk, zk_bnd, zk_some, zlp_l, zlp_r, zb_some, zb_bnd, zI_add, zI_sub, zI_mul, zI_neg, zI_le, zI_lt, zI_eq, zI_ix, zI_inI, Int.toNat_natCast, Int.toNat_add, Int.toNat_mul, true_and, and_true]; omega), s0i.2, s0j.2, show (((zS l 0 i + 1 : Nat) : Int) - 1) = ((zS l 0 i : Nat) : Int) by omega, show (((zS l 0 j + 1 : Nat) : Int) - 1) = ((zS l 0 j : Nat) : Int) by omega, show zI 0 = zI ((0 : Nat) : Int) from rfl, zk_bind]
          refine zOk_mono (r_tellsClue h (by decide) s0i.1 s0j.1) (fun M2 h2 => ?_)
          refine half M2 h2.2 (cluR_cg h2.1 (fun kind a b _ _ _ => ?_))
          by_cases hk0 : kind = 0
          · rw [if_pos hk0, hk0, zcwD_or ho hij hj hd]
            exact or_congr Iff.rfl ⟨fun hh => hh.2, fun hh => ⟨rfl, hh⟩⟩
          · rw [if_neg hk0]
            exact ⟨fun hh => hh.elim id (fun hh => absurd hh.1 hk0), Or.inl⟩
      · rw [if_neg (by simp (disch := omega) only [zk_bind, zk_chk, zk_bnd, zk_some, zlp_l, zlp_r, zb_some, zb_bnd, zI_add, zI_sub, zI_mul, zI_neg, zI_le, zI_lt, zI_eq, zI_ix, zI_inI, Int.toNat_natCast, Int.toNat_add, Int.toNat_mul, true_and, and_true]; omega)]
        exact none_ (fun kind hd => c3 ((hiff kind).mp hd).1)
    · rw [if_neg (by simp (disch := omega) only [zk_bind, zk_chk, zk_bnd, zk_some, zlp_l, zlp_r, zb_some, zb_bnd, zI_add, zI_sub, zI_mul, zI_neg, zI_le, zI_lt, zI_eq, zI_ix, zI_inI, Int.toNat_natCast, Int.toNat_add, Int.toNat_mul, true_and, and_true]; omega)]
      exact none_ (fun kind hd => c2 hd.1)
