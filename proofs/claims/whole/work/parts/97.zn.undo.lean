/-! ===== guesses, undoing ===== deps: 97.zm.guess -/
theorem zsum_chg {n : Nat} {f g : Nat → Nat} {j : Nat} (hj : j < n) (h : ∀ i, i < n → i ≠ j → f i = g i) : zsum n f + g j = zsum n g + f j := by
  induction n with
  | zero => omega
  | succ n ih =>
    rw [zsum_s, zsum_s]
    by_cases hjn : j = n
    · rw [zsum_cg (fun i hi => h i (by omega) (by omega)), hjn]
      omega
    · have := ih (by omega) (fun i hi => h i (by omega))
      have := h n (by omega) (fun hh => hjn hh.symm)
      omega
theorem zguess_set {h h' : Nat → Int} {f : Nat} {v : Int} (hf : f < 20) (e1 : h' (4 + f) = v) (e2 : ∀ g, g < 20 → g ≠ f → h' (4 + g) = h (4 + g)) : zguess h' + zb (h (4 + f) ≠ -1) = zguess h + zb (v ≠ -1) := by
  unfold zguess
  have := zsum_chg (n := 20) (f := fun g => zb (h' (4 + g) ≠ -1)) (g := fun g => zb (h (4 + g) ≠ -1)) hf (fun g hg hgf => by rw [e2 g hg hgf])
  rw [e1] at this
  exact this
def zWpg (a k : Nat) : Bool := a == 26 || (a == 20 && k == 10)
theorem c_putGuess {M : ZMem} {f g : Nat} {u v : Int} (hf : f < 20) (hu : M.1 26 f = zI u) (hg : M.1 20 10 = zI g) (hu1 : -1 ≤ u ∧ u ≤ 49) (hv1 : -1 ≤ v ∧ v ≤ 49) : zOk (f_X1_putGuess M (zI f) (zI v)) (fun M' => M'.1 20 10 = zI ((g : Int) + zb (v ≠ -1) - zb (u ≠ -1)) ∧ M'.1 26 f = zI v ∧ (∀ k, k ≠ f → M'.1 26 k = M.1 26 k) ∧ zP zWpg M M') := by
  have last : ∀ x y : Nat, zOk (f_X1_putGuess_40 M (zI f) (zI v) (zI g) (zI x) (zI y)) (fun M' => M'.1 20 10 = zI ((g : Int) + x - y) ∧ M'.1 26 f = zI v ∧ (∀ k, k ≠ f → M'.1 26 k = M.1 26 k) ∧ zP zWpg M M') := by
    intro x y
    unfold f_X1_putGuess_40
    rw [zI_sub, zI_add, zk_bnd, zI_inI (by omega) (by omega) (by omega), zb_chk, zk_bnd, zk_some, zI_ix (by omega) (by omega), Int.toNat_natCast]
    refine ⟨?_, zm_Is _ _ _ _, fun k hk => ?_, zP_I (zP_I zP_rf rfl) rfl⟩
    · rw [zm_Iq _ _ _ _ (by decide), zm_Is]
      exact zI_inj (by omega)
    · rw [zm_In _ _ _ _ hk, zm_Iq _ _ _ _ (by decide)]
  have mid : ∀ x : Nat, zOk (f_X1_putGuess_25 M (zI f) (zI v) (zI g) (zI x)) (fun M' => M'.1 20 10 = zI ((g : Int) + x - zb (u ≠ -1)) ∧ M'.1 26 f = zI v ∧ (∀ k, k ≠ f → M'.1 26 k = M.1 26 k) ∧ zP zWpg M M') := by
    intro x
    unfold f_X1_putGuess_25
    rw [zI_inI (by omega) (by omega) (by omega), zb_chk, zI_ix (by omega) (by omega), Int.toNat_natCast, hu]
    by_cases h : u = -1
    · rw [if_pos (by rw [h]), zb_f (fun hh => hh h)]
      exact last x 0
    · rw [if_neg (by simp (disch := omega) only [zk_bind, zk_chk, zk_bnd, zk_some, zlp_l, zlp_r, zb_some, zb_bnd, zI_add, zI_sub, zI_mul, zI_neg, zI_le, zI_lt, zI_eq, zI_ix, zI_inI, Int.toNat_natCast, Int.toNat_add, Int.toNat_mul, true_and, and_true]; omega), zb_t h]
      exact last x 1
  unfold f_X1_putGuess
  rw [if_neg (by simp (disch := omega) only [zk_bind, zk_chk, zk_bnd, zk_some, zlp_l, zlp_r, zb_some, zb_bnd, zI_add, zI_sub, zI_mul, zI_neg, zI_le, zI_lt, zI_eq, zI_ix, zI_inI, Int.toNat_natCast, Int.toNat_add, Int.toNat_mul, true_and, and_true]; omega), if_neg (by simp (disch := omega) only [zk_bind, zk_chk, zk_bnd, zk_some, zlp_l, zlp_r, zb_some, zb_bnd, zI_add, zI_sub, zI_mul, zI_neg, zI_le, zI_lt, zI_eq, zI_ix, zI_inI, Int.toNat_natCast, Int.toNat_add, Int.toNat_mul, true_and, and_true]; omega), hg]
  by_cases h : v = -1
  · rw [if_pos (by rw [h]), zb_f (fun hh => hh h)]
    exact mid 0
  · rw [if_neg (by simp (disch := omega) only [zk_bind, zk_chk, zk_bnd, zk_some, zlp_l, zlp_r, zb_some, zb_bnd, zI_add, zI_sub, zI_mul, zI_neg, zI_le, zI_lt, zI_eq, zI_ix, zI_inI, Int.toNat_natCast, Int.toNat_add, Int.toNat_mul, true_and, and_true]; omega), zb_t h]
    exact mid 1
theorem clueC_put {h h' : Nat → Int} {M M' : ZMem} {f : Nat} {v : Int} (hf : f < 20) (e1 : h' (4 + f) = v) (e2 : ∀ j, j < 460 → j ≠ 4 + f → h' j = h j) (h12 : h 3 ≤ 12) (hc : clueC h M) (k : M'.1 20 10 = zI ((zguess h : Int) + zb (v ≠ -1) - zb (h (4 + f) ≠ -1)) ∧ M'.1 26 f = zI v ∧ (∀ k, k ≠ f → M'.1 26 k = M.1 26 k) ∧ zP zWpg M M') : clueC h' M' := by
  obtain ⟨k1, k2, k3, k4⟩ := k
  refine ⟨by rw [k4.1 20 9 rfl, e2 3 (by omega) (by omega)]; exact hc.1, fun k hk => ?_, fun g hg => ?_, ?_⟩
  · rw [e2 3 (by omega) (by omega)] at hk
    rw [k4.1 23 k rfl, k4.1 24 k rfl, k4.1 25 k rfl, e2 _ (by omega) (by omega), e2 _ (by omega) (by omega), e2 _ (by omega) (by omega)]
    exact hc.2.1 k hk
  · by_cases hgf : g = f
    · rw [hgf, k2, e1]
    · rw [k3 g hgf, e2 _ (by omega) (by omega)]
      exact hc.2.2.1 g hg
  · have := zguess_set (h := h) (h' := h') hf e1 (fun g hg hgf => e2 _ (by omega) (by omega))
    rw [k1]
    exact zI_inj (by omega)
def zsyl (c w : Int) : Int := if c = -1 ∧ w = -1 then -1 else if (0 ≤ c ∧ c < 10) ∧ (0 ≤ w ∧ w < 5) then 5 * c + w else -2
theorem zsyl_rng (c w : Int) : -2 ≤ zsyl c w ∧ zsyl c w ≤ 49 := by
  unfold zsyl
  split
  · omega
  · split <;> omega
theorem c_syllableOf {M : ZMem} {c w : Int} (l1 : -2147483648 ≤ c) (u1 : c ≤ 2147483647) (l2 : -2147483648 ≤ w) (u2 : w ≤ 2147483647) : f_X11_syllableOf M (zI c) (zI w) = some (zI (zsyl c w)) := by
  have e12 : ¬ (c = -1 ∧ w = -1) → f_X11_syllableOf_12 M (zI c) (zI w) = some (zI (zsyl c w)) := by
    intro hn
    unfold zsyl
    rw [if_neg hn]
    unfold f_X11_syllableOf_12 f_X11_syllableOf_35 f_X11_syllableOf_36
    by_cases c1 : c < 0
    · rw [if_pos (by simp (disch := omega) only [zk_bind, zk_chk, zk_bnd, zk_some, zlp_l, zlp_r, zb_some, zb_bnd, zI_add, zI_sub, zI_mul, zI_neg, zI_le, zI_lt, zI_eq, zI_ix, zI_inI, Int.toNat_natCast, Int.toNat_add, Int.toNat_mul, true_and, and_true]; omega), if_pos rfl, if_neg (by omega)]
    · rw [if_neg (by simp (disch := omega) only [zk_bind, zk_chk, zk_bnd, zk_some, zlp_l, zlp_r, zb_some, zb_bnd, zI_add, zI_sub, zI_mul, zI_neg, zI_le, zI_lt, zI_eq, zI_ix, zI_inI, Int.toNat_natCast, Int.toNat_add, Int.toNat_mul, true_and, and_true]; omega)]
      by_cases c2 : 10 ≤ c
      · rw [if_pos (by simp (disch := omega) only [zk_bind, zk_chk, zk_bnd, zk_some, zlp_l, zlp_r, zb_some, zb_bnd, zI_add, zI_sub, zI_mul, zI_neg, zI_le, zI_lt, zI_eq, zI_ix, zI_inI, Int.toNat_natCast, Int.toNat_add, Int.toNat_mul, true_and, and_true]; omega), if_pos rfl, if_neg (by omega)]
      · rw [if_neg (by simp (disch := omega) only [zk_bind, zk_chk, zk_bnd, zk_some, zlp_l, zlp_r, zb_some, zb_bnd, zI_add, zI_sub, zI_mul, zI_neg, zI_le, zI_lt, zI_eq, zI_ix, zI_inI, Int.toNat_natCast, Int.toNat_add, Int.toNat_mul, true_and, and_true]; omega)]
        by_cases c3 : w < 0
        · rw [if_pos (by simp (disch := omega) only [zk_bind, zk_chk, zk_bnd, zk_some, zlp_l, zlp_r, zb_some, zb_bnd, zI_add, zI_sub, zI_mul, zI_neg, zI_le, zI_lt, zI_eq, zI_ix, zI_inI, Int.toNat_natCast, Int.toNat_add, Int.toNat_mul, true_and, and_true]; omega), if_pos rfl, if_neg (by omega)]
        · rw [if_neg (by simp (disch := omega) only [zk_bind, zk_chk, zk_bnd, zk_some, zlp_l, zlp_r, zb_some, zb_bnd, zI_add, zI_sub, zI_mul, zI_neg, zI_le, zI_lt, zI_eq, zI_ix, zI_inI, Int.toNat_natCast, Int.toNat_add, Int.toNat_mul, true_and, and_true]; omega)]
          by_cases c4 : 5 ≤ w
          · rw [if_pos (by simp (disch := omega) only [zk_bind, zk_chk, zk_bnd, zk_some, zlp_l, zlp_r, zb_some, zb_bnd, zI_add, zI_sub, zI_mul, zI_neg, zI_le, zI_lt, zI_eq, zI_ix, zI_inI, Int.toNat_natCast, Int.toNat_add, Int.toNat_mul, true_and, and_true]; omega), if_pos rfl, if_neg (by omega)]
          · rw [if_neg (by simp (disch := omega) only [zk_bind, zk_chk, zk_bnd, zk_some, zlp_l, zlp_r, zb_some, zb_bnd, zI_add, zI_sub, zI_mul, zI_neg, zI_le, zI_lt, zI_eq, zI_ix, zI_inI, Int.toNat_natCast, Int.toNat_add, Int.toNat_mul, true_and, and_true]; omega), if_neg (by decide), if_pos (by omega), zI_mul, zI_add]
            exact congrArg some (zI_inj (by omega))
  unfold f_X11_syllableOf
  by_cases h1 : c = -1
  · rw [if_pos (by rw [h1])]
    by_cases h2 : w = -1
    · rw [if_pos (by rw [h2])]
      unfold zsyl
      rw [if_pos ⟨h1, h2⟩]
    · rw [if_neg (by simp (disch := omega) only [zk_bind, zk_chk, zk_bnd, zk_some, zlp_l, zlp_r, zb_some, zb_bnd, zI_add, zI_sub, zI_mul, zI_neg, zI_le, zI_lt, zI_eq, zI_ix, zI_inI, Int.toNat_natCast, Int.toNat_add, Int.toNat_mul, true_and, and_true]; omega)]
      exact e12 (fun hh => h2 hh.2)
  · rw [if_neg (by simp (disch := omega) only [zk_bind, zk_chk, zk_bnd, zk_some, zlp_l, zlp_r, zb_some, zb_bnd, zI_add, zI_sub, zI_mul, zI_neg, zI_le, zI_lt, zI_eq, zI_ix, zI_inI, Int.toNat_natCast, Int.toNat_add, Int.toNat_mul, true_and, and_true]; omega)]
    exact e12 (fun hh => h1 hh.1)
theorem r_guess65 {M : ZMem} {F : Nat} (hF : F ≤ 20) (hF1 : M.1 0 4 = zI F) {a c w : Int} (l0 : -2147483648 ≤ a) (u0 : a ≤ 2147483647) (l1 : -2147483648 ≤ c) (u1 : c ≤ 2147483647) (l2 : -2147483648 ≤ w) (u2 : w ≤ 2147483647) : f_X12_guess M (zI a) (zI c) (zI w) = if (0 ≤ a ∧ a < F) ∧ zsyl c w ≠ -2 then f_X12_guess_65 M (zI a) (zI (zsyl c w)) else some (M, zI (-1)) := by
  have e15 : ¬ (c = -1 ∧ w = -1) → f_X12_guess_15 M (zI a) (zI c) (zI w) (zI 0) = if (0 ≤ a ∧ a < F) ∧ zsyl c w ≠ -2 then f_X12_guess_65 M (zI a) (zI (zsyl c w)) else some (M, zI (-1)) := by
    intro hn
    have ez : zsyl c w = if (0 ≤ c ∧ c < 10) ∧ (0 ≤ w ∧ w < 5) then 5 * c + w else -2 := if_neg hn
    unfold f_X12_guess_15
    rw [r_isForm hF1 hF _ l0 u0, zb_some]
    by_cases h1 : 0 ≤ a ∧ a < F
    · rw [if_neg (fun hh => zb_0.mp hh h1), if_pos rfl, r_in l1 u1 (by omega) (by omega) (by omega) (by omega), zb_some]
      by_cases h2 : 0 ≤ c ∧ c ≤ 9
      · rw [if_neg (fun hh => zb_0.mp hh h2), r_in l2 u2 (by omega) (by omega) (by omega) (by omega), zb_some]
        by_cases h3 : 0 ≤ w ∧ w ≤ 4
        · rw [if_neg (fun hh => zb_0.mp hh h3)]
          unfold f_X12_guess_51
          rw [if_pos rfl, zI_mul, zI_add, ez, if_pos (show (0 ≤ c ∧ c < 10) ∧ (0 ≤ w ∧ w < 5) by omega), if_pos ⟨h1, by omega⟩]
        · rw [if_pos (zb_0.mpr h3), ez, if_neg (show ¬ ((0 ≤ c ∧ c < 10) ∧ (0 ≤ w ∧ w < 5)) by omega), if_neg (fun hh => hh.2 rfl)]
      · rw [if_pos (zb_0.mpr h2), ez, if_neg (show ¬ ((0 ≤ c ∧ c < 10) ∧ (0 ≤ w ∧ w < 5)) by omega), if_neg (fun hh => hh.2 rfl)]
    · rw [if_pos (zb_0.mpr h1), if_neg (fun hh => h1 hh.1)]
  unfold f_X12_guess f_X12_guess_14
  by_cases h1 : c = -1
  · rw [if_pos (by rw [h1])]
    by_cases h2 : w = -1
    · have ez : zsyl c w = -1 := if_pos ⟨h1, h2⟩
      rw [if_pos (by rw [h2])]
      unfold f_X12_guess_15 f_X12_guess_51
      rw [r_isForm hF1 hF _ l0 u0, zb_some, ez, if_neg (c := zI 1 = zI 0) (by decide), if_neg (c := zI 1 = zI 0) (by decide)]
      by_cases h3 : 0 ≤ a ∧ a < F
      · rw [if_neg (fun hh => zb_0.mp hh h3), if_pos ⟨h3, by decide⟩]
      · rw [if_pos (zb_0.mpr h3), if_neg (fun hh => h3 hh.1)]
    · rw [if_neg (by simp (disch := omega) only [zk_bind, zk_chk, zk_bnd, zk_some, zlp_l, zlp_r, zb_some, zb_bnd, zI_add, zI_sub, zI_mul, zI_neg, zI_le, zI_lt, zI_eq, zI_ix, zI_inI, Int.toNat_natCast, Int.toNat_add, Int.toNat_mul, true_and, and_true]; omega)]
      exact e15 (fun hh => h2 hh.2)
  · rw [if_neg (by simp (disch := omega) only [zk_bind, zk_chk, zk_bnd, zk_some, zlp_l, zlp_r, zb_some, zb_bnd, zI_add, zI_sub, zI_mul, zI_neg, zI_le, zI_lt, zI_eq, zI_ix, zI_inI, Int.toNat_natCast, Int.toNat_add, Int.toNat_mul, true_and, and_true]; omega)]
    exact e15 (fun hh => h1 hh.1)
theorem okH_guess {F f : Nat} {h : Nat → Int} {v : Int} (hk : okH F h) (hF : F ≤ 20) (hf : f < F) (hv : -1 ≤ v ∧ v ≤ 49) : okH F (fun i => if i = 4 + f then v else h i) := by
  obtain ⟨h0, h1, h2, h3, h4, h5, h6⟩ := hk
  refine ⟨?_, ?_, ?_, ?_, fun g hg => ?_, fun k hk => ?_, fun k hk => ?_⟩
  · dsimp only; rw [if_neg (by omega)]; exact h0
  · dsimp only; rw [if_neg (by omega)]; exact h1
  · dsimp only; rw [if_neg (by omega)]; exact h2
  · dsimp only; rw [if_neg (by omega)]; exact h3
  · dsimp only
    split
    · exact ⟨hv.1, hv.2, fun hh => by omega⟩
    · exact h4 g hg
  · dsimp only; rw [if_neg (by omega)]; exact h5 k hk
  · dsimp only at hk ⊢
    rw [if_neg (by omega)] at hk
    rw [if_neg (by omega), if_neg (by omega), if_neg (by omega)]
    exact h6 k hk
theorem zp_guess : zPr_guess zRel := by
  rintro M1 M2 a1 a2 a3 ⟨σ, ho, hc, hr⟩
  obtain ⟨a, rfl, l0, u0⟩ := zI_of a1
  obtain ⟨c, rfl, l1, u1⟩ := zI_of a2
  obtain ⟨w, rfl, l2, u2⟩ := zI_of a3
  have hF := ho.2.1
  have hk := okT_hk ho
  have hcl := hc.2.1.2.2.2.1
  have hRel : zRel M1 M2 := ⟨σ, ho, hc, hr⟩
  have hz := zsyl_rng c w
  unfold f_X11_guess
  rw [c_syllableOf l1 u1 l2 u2, zb_some, c_has hc.2.1.1.2.1 hF _ l0 u0, zb_some, r_guess65 hF hr.2.1.2.1 l0 u0 l1 u1 l2 u2]
  by_cases h1 : 0 ≤ a ∧ a < gF σ
  · rw [if_neg (fun hh => zb_0.mp hh h1)]
    by_cases h2 : zsyl c w = -2
    · rw [if_pos (by rw [h2]), if_neg (fun hh => hh.2 h2), zk_some, zk_some]
      exact ⟨rfl, hRel⟩
    · obtain ⟨f, rfl⟩ := Int.eq_ofNat_of_zero_le h1.1
      have hf : f < gF σ := by omega
      rw [if_neg (by simp (disch := omega) only [zk_bind, zk_chk, zk_bnd, zk_some, zlp_l, zlp_r, zb_some, zb_bnd, zI_add, zI_sub, zI_mul, zI_neg, zI_le, zI_lt, zI_eq, zI_ix, zI_inI, Int.toNat_natCast, Int.toNat_add, Int.toNat_mul, true_and, and_true]; omega), if_pos ⟨h1, h2⟩]
      generalize hv : zsyl c w = v at h2 hz
      have hgf := hk.2.2.2.2.1 f (by omega)
      unfold f_X1_tellGuess f_X12_guess_65
      rw [if_neg (by simp (disch := omega) only [zk_bind, zk_chk, zk_bnd, zk_some, zlp_l, zlp_r, zb_some, zb_bnd, zI_add, zI_sub, zI_mul, zI_neg, zI_le, zI_lt, zI_eq, zI_ix, zI_inI, Int.toNat_natCast, Int.toNat_add, Int.toNat_mul, true_and, and_true]; omega), if_neg (by simp (disch := omega) only [zk_bind, zk_chk, zk_bnd, zk_some, zlp_l, zlp_r, zb_some, zb_bnd, zI_add, zI_sub, zI_mul, zI_neg, zI_le, zI_lt, zI_eq, zI_ix, zI_inI, Int.toNat_natCast, Int.toNat_add, Int.toNat_mul, true_and, and_true]; omega), zI_inI (n := 20) (by omega) (by omega) (by omega), zb_chk, zI_ix (by omega) (by omega), Int.toNat_natCast, hcl.2.2.1 f (by omega), zI_add, zI_inI (n := 460) (by omega) (by omega) (by omega), zb_chk, zI_ix (by omega) (by omega), show ((4 : Int) + (f : Int)).toNat = 4 + f by omega, hr.2.2.2.2.1 (4 + f) (by omega)]
      by_cases he : gh σ (4 + f) = v
      · rw [if_pos (by rw [he]), if_pos (by rw [he]), zb_some, if_pos rfl, zk_some, zb_chk, zk_some]
        exact ⟨rfl, hRel⟩
      · have hu : zund 5 f (gh σ (4 + f)) (fun i => if i = 4 + f then v else gh σ i) (gh σ) := Or.inr (Or.inr (Or.inr ⟨rfl, by omega, by omega, fun i hi => by
          by_cases hij : i = 4 + f
          · rw [hij, if_pos (by omega)]
          · rw [if_neg (by omega)]
            dsimp only
            rw [if_neg hij]⟩))
        rw [if_neg (c := zI (gh σ (4 + f)) = zI v) (by simp (disch := omega) only [zk_bind, zk_chk, zk_bnd, zk_some, zlp_l, zlp_r, zb_some, zb_bnd, zI_add, zI_sub, zI_mul, zI_neg, zI_le, zI_lt, zI_eq, zI_ix, zI_inI, Int.toNat_natCast, Int.toNat_add, Int.toNat_mul, true_and, and_true]; omega), if_neg (c := zI (gh σ (4 + f)) = zI v) (by simp (disch := omega) only [zk_bind, zk_chk, zk_bnd, zk_some, zlp_l, zlp_r, zb_some, zb_bnd, zI_add, zI_sub, zI_mul, zI_neg, zI_le, zI_lt, zI_eq, zI_ix, zI_inI, Int.toNat_natCast, Int.toNat_add, Int.toNat_mul, true_and, and_true]; omega), zb_chk, zk_bind, zk_bind]
        refine zOk_mono (c_note (P := gP σ) (H := gH σ) ho.2.2.2.2.1 hc.2.2.2.1 hu) (fun N1 k1 => ?_)
        rw [zk_bind]
        have hcl1 : clueC (gh σ) N1 := clueC_x (fun a k hk => k1.2.1 a k (by unfold dclueC at hk; unfold zWnt; simp at hk ⊢; omega)) hcl
        refine zOk_mono (c_putGuess (f := f) (g := zguess (gh σ)) (u := gh σ (4 + f)) (v := v) (by omega) (hcl1.2.2.1 f (by omega)) hcl1.2.2.2 ⟨hgf.1, hgf.2.1⟩ ⟨by omega, hz.2⟩) (fun N2 k2 => ?_)
        rw [zk_some]
        dsimp only
        rw [if_neg (by decide), zk_bnd]
        have hcl2 : clueC (fun i => if i = 4 + f then v else gh σ i) N2 := clueC_put (h := gh σ) (show f < 20 by omega) (if_pos rfl) (fun j hj hj2 => if_neg hj2) hk.2.2.2.1.2 hcl1 k2
        have hsm : zsame (gh σ) (fun i => if i = 4 + f then v else gh σ i) := ⟨if_neg (by omega), if_neg (by omega), if_neg (by omega), fun k hk => if_neg (by omega)⟩
        have hpC : zP zWact M1 (zstI N2 0 14 (zI 1)) := zP_I (zP_tr (zP_mono k1.2 (fun a k ha => by unfold zWact at ha; unfold zWnt; simp at ha ⊢; omega)) (zP_mono k2.2.2.2 (fun a k ha => by unfold zWact at ha; unfold zWpg; simp at ha ⊢; omega))) rfl
        have ho' : okT (zNw σ (fun i => if i = 4 + f then v else gh σ i)) := okT_n ho (okH_guess hk hF hf ⟨by omega, hz.2⟩)
        have hC' : relC (zNw σ (fun i => if i = 4 + f then v else gh σ i)) (zstI N2 0 14 (zI 1)) := by
          refine relC_n hpC.1 hpC.2 (setC_cg hsm (setC_x (fun a k hk => ?_) hc.2.1.2.2.1)) (clueC_x (fun a k hk => ?_) hcl2) (actsC_x ?_ (fun a k ha => ?_) k1.1) (Or.inr (zm_Is _ _ _ _)) (Or.inr ⟨?_, zm_Is _ _ _ _, hsm⟩) hc
          · unfold dsetC at hk
            rw [zm_Iq _ _ _ _ (by simp at hk; omega), k2.2.2.2.1 a k (by unfold zWpg; simp at hk ⊢; omega)]
            exact k1.2.1 a k (by unfold zWnt; simp at hk ⊢; omega)
          · unfold dclueC at hk
            rw [zm_Iq _ _ _ _ (by simp at hk; omega)]
          · rw [zm_Iq _ _ _ _ (by decide), k2.2.2.2.1 20 11 rfl]
          · rw [zm_Iq _ _ _ _ (by omega), k2.2.2.2.1 a k (by unfold zWpg; simp; omega)]
          · rw [zm_In _ _ _ _ (by decide), k2.2.2.2.1 0 13 rfl, k1.2.1 0 13 rfl]
        rw [zk_bind]
        refine zOk_mono (k_fg ho' hC') (fun C hC => ?_)
        have hg := hC.1.2.2.2.2.2.2.2.1 hC.2.1 hC.2.2
        rw [c_disputedSigns hF hg.2.2.1, zb_some, zk_some, zk_bind]
        refine zOk_mono (r_remembers (P := gP σ) (H := gH σ) (fun i => if i = 4 + f then v else gh σ i) ho.2.2.2.2.1 hr.2.2.2.2.1 hr.2.2.2.2.2.1) (fun R1 k5 => ?_)
        rw [zb_chk, zk_bnd, zk_bind]
        have hh1 : handR (gh σ) R1 := handR_x (fun k => k5.2.2.1 9 k rfl) hr.2.2.2.2.1
        have hR' : relR (zNw σ (fun i => if i = 4 + f then v else gh σ i)) (zstI R1 9 (4 + f) (zI v)) := by
          refine relR_n (zP_I (zP_mono k5.2.2 (fun a k ha => ?_)) rfl) (handR_set hh1) (pastR_x ?_ (fun k => ?_) k5.1) ?_ hr
          · simp at ha ⊢
            exact ha.2
          · rw [zm_Iq _ _ _ _ (by decide)]
          · rw [zm_Iq _ _ _ _ (by decide)]
          · rw [zm_Iq _ _ _ _ (by decide)]
            exact k5.2.1
        refine zOk_mono (k_ls ho' hR') (fun R2 h' => ?_)
        obtain ⟨q1, q2, q3⟩ := h'
        have hk' := okT_hk ho'
        rw [r_disputedMany hF q1.2.1.2.1 hk' q1.2.2.2.2.1 q3.1.1 (fun f hf => zsgl ho' hf) q3.2.2.2.2.1 (fun kind f hf => dGR_lt hF kind f hf) q3.2.2.2.2.2, zb_some, zk_some]
        exact ⟨rfl, _, ho', hC.1, q1⟩
  · rw [if_pos (zb_0.mpr h1), if_neg (fun hh => h1 hh.1), zk_some, zk_some]
    exact ⟨rfl, hRel⟩
theorem r_undo {M : ZMem} {p : Nat} {H : Nat → Nat → Int} (hp : p < 20) (hpa : pastR (p + 1) H M) : zOk (f_X12_undo M) (fun r => r.2 = zI p ∧ handR (H p) r.1 ∧ pastR p H r.1 ∧ r.1.1 0 45 = zI 0 ∧ zP (fun a k => a == 9 || zWrm a k) M r.1) := by
  unfold f_X12_undo
  rw [hpa.1, if_neg (by simp (disch := omega) only [zk_bind, zk_chk, zk_bnd, zk_some, zlp_l, zlp_r, zb_some, zb_bnd, zI_add, zI_sub, zI_mul, zI_neg, zI_le, zI_lt, zI_eq, zI_ix, zI_inI, Int.toNat_natCast, Int.toNat_add, Int.toNat_mul, true_and, and_true]; omega), zI_sub, zk_bnd, zk_bind]
  have e17 : (zstI M 0 17 (zI (((p + 1 : Nat) : Int) - 1))).1 0 17 = zI p := by
    rw [zm_Is]
    exact zI_inj (by omega)
  have e10 : ∀ j, (zstI M 0 17 (zI (((p + 1 : Nat) : Int) - 1))).1 10 j = M.1 10 j := fun j => by rw [zm_Iq _ _ _ _ (by decide)]
  have ep : zP (fun a k => a == 9 || zWrm a k) M (zstI M 0 17 (zI (((p + 1 : Nat) : Int) - 1))) := zP_I zP_rf rfl
  generalize zstI M 0 17 (zI (((p + 1 : Nat) : Int) - 1)) = M1 at e17 e10 ep ⊢
  refine zOk_forQ (fun i s => s.2 = zI i ∧ (∀ j, j < i → s.1.1 9 j = zI (H p j)) ∧ zP (fun a _ => a == 9) M1 s.1) 460 ?_ ?_ ⟨rfl, fun j hj => absurd hj (Nat.not_lt_zero j), zP_rf⟩
  · rintro i ⟨N, s2⟩ hi ⟨e1, e2, e4⟩ Q hQ _
    dsimp only at e1 e2 e4
    unfold f_X12_undo_L21
    dsimp only
    rw [e1, e4.1 0 17 rfl, e17, if_neg (by simp (disch := omega) only [zk_bind, zk_chk, zk_bnd, zk_some, zlp_l, zlp_r, zb_some, zb_bnd, zI_add, zI_sub, zI_mul, zI_neg, zI_le, zI_lt, zI_eq, zI_ix, zI_inI, Int.toNat_natCast, Int.toNat_add, Int.toNat_mul, true_and, and_true]; omega), zI_mul, zI_add, zI_inI (by omega) (by omega) (by omega), zb_chk, zI_inI (by omega) (by omega) (by omega), zb_chk, zk_bnd, zk_bnd, zk_some, zI_add, zI_ix (by omega) (by omega), zI_ix (by omega) (by omega), Int.toNat_natCast, show (460 * (p : Int) + (i : Int)).toNat = 460 * p + i by omega, e4.1 10 _ rfl, e10, hpa.2 p i (by omega) hi]
    refine hQ _ ⟨zI_inj (by omega), fun j hj => ?_, zP_I e4 rfl⟩
    dsimp only
    by_cases hji : j = i
    · rw [hji, zm_Is]
    · rw [zm_In _ _ _ _ (by omega)]
      exact e2 j (by omega)
  · rintro ⟨N, s2⟩ ⟨e1, e2, e4⟩
    dsimp only at e1 e2 e4
    refine ⟨N, ?_, ?_⟩
    · unfold f_X12_undo_L21
      dsimp only
      rw [e1, if_pos (by simp (disch := omega) only [zk_bind, zk_chk, zk_bnd, zk_some, zlp_l, zlp_r, zb_some, zb_bnd, zI_add, zI_sub, zI_mul, zI_neg, zI_le, zI_lt, zI_eq, zI_ix, zI_inI, Int.toNat_natCast, Int.toNat_add, Int.toNat_mul, true_and, and_true]; omega)]
    · rw [zk_bnd, zk_some]
      refine ⟨?_, fun k hk => ?_, ⟨?_, fun q k hq hk => ?_⟩, zm_Is _ _ _ _, zP_I (zP_tr ep (zP_mono e4 (fun a k ha => ?_))) rfl⟩
      · dsimp only
        rw [zm_In _ _ _ _ (by decide), e4.1 0 17 rfl, e17]
      · rw [zm_Iq _ _ _ _ (by decide)]
        exact e2 k hk
      · rw [zm_In _ _ _ _ (by decide), e4.1 0 17 rfl, e17]
      · rw [zm_Iq _ _ _ _ (by decide), e4.1 10 _ rfl, e10]
        exact hpa.2 q k (by omega) hk
      · simp at ha ⊢
        exact ha.1
/-- what is left when the last act is undone: class -/
theorem c_undo {σ : ZT} {C : ZMem} (ho : okT σ) (hc : relC σ C) {p : Nat} (hp : gP σ = p + 1) : zOk (f_X11_undo C) (fun r => r.2 = zI p ∧ relC (zPH σ p (gH σ)) r.1) := by
  have hP := ho.2.2.2.2.1
  have hk := okT_hk ho
  have hk' := ho.2.2.2.2.2.1 p (by omega)
  have hac := hc.2.2.2.1
  have hsC := hc.2.1.2.2.1
  have hcl := hc.2.1.2.2.2.1
  obtain ⟨k, q, w, b1, b2, b3, b4⟩ := hac.2 p (by omega)
  have ePp : gH σ (p + 1) = gh σ := by unfold gh; rw [hp]
  rw [ePp] at b4
  have fin : ∀ (N : ZMem), N.1 20 11 = zI p → (∀ a k, zWact a k = false → N.1 a k = C.1 a k) → N.2 = C.2 → (∀ a k, (a = 27 ∨ a = 28 ∨ a = 29) → N.1 a k = C.1 a k) → setC (gH σ p) N → clueC (gH σ p) N → zbit (N.1 0 14) → (N.1 0 13 = zI 1 ∨ (N.1 0 13 = C.1 0 13 ∧ N.1 0 14 = zI 1 ∧ zsame (gh σ) (gH σ p))) → relC (zPH σ p (gH σ)) N := by
    intro N n1 n2 n3 n4 n5 n6 n7 n8
    refine relC_h n2 n3 n5 n6 ⟨n1, fun t ht => ?_⟩ n7 n8 hc
    rw [n4 27 t (by omega), n4 28 t (by omega), n4 29 t (by omega)]
    exact hac.2 t (by omega)
  have m11 : (zstI C 20 11 (zI (((gP σ : Nat) : Int) - 1))).1 20 11 = zI p := by
    rw [zm_Is]
    exact zI_inj (by omega)
  have mo : ∀ a, a ≠ 20 → (zstI C 20 11 (zI (((gP σ : Nat) : Int) - 1))).1 a = C.1 a := fun a ha => zm_Iq _ _ _ _ ha
  have mo2 : ∀ k, k ≠ 11 → (zstI C 20 11 (zI (((gP σ : Nat) : Int) - 1))).1 20 k = C.1 20 k := fun k hk => zm_In _ _ _ _ hk
  have mo3 : (zstI C 20 11 (zI (((gP σ : Nat) : Int) - 1))).2 = C.2 := rfl
  unfold f_X11_undo f_X1_undoLast
  rw [hac.1, if_pos (by simp (disch := omega) only [zk_bind, zk_chk, zk_bnd, zk_some, zlp_l, zlp_r, zb_some, zb_bnd, zI_add, zI_sub, zI_mul, zI_neg, zI_le, zI_lt, zI_eq, zI_ix, zI_inI, Int.toNat_natCast, Int.toNat_add, Int.toNat_mul, true_and, and_true]; omega), zI_sub]
  generalize zstI C 20 11 (zI (((gP σ : Nat) : Int) - 1)) = M at m11 mo mo2 mo3 ⊢
  rw [zb_bnd, m11, zI_inI (by omega) (by omega) (by omega), zb_chk, zb_bnd, zb_chk, zb_bnd, zb_chk, zb_bnd, zI_ix (by omega) (by omega), Int.toNat_natCast, mo 27 (by decide), mo 28 (by decide), mo 29 (by decide), b1, b2, b3]
  rcases b4 with ⟨d1, d2, d3, d4⟩ | ⟨d1, d2, d3, d4⟩ | ⟨d1, d2, d3, d4, d5⟩ | ⟨d1, d2, d3, d4⟩
  · obtain ⟨k, rfl⟩ := Int.eq_ofNat_of_zero_le d1
    rw [if_neg (by simp (disch := omega) only [zk_bind, zk_chk, zk_bnd, zk_some, zlp_l, zlp_r, zb_some, zb_bnd, zI_add, zI_sub, zI_mul, zI_neg, zI_le, zI_lt, zI_eq, zI_ix, zI_inI, Int.toNat_natCast, Int.toNat_add, Int.toNat_mul, true_and, and_true]; omega), if_neg (by simp (disch := omega) only [zk_bind, zk_chk, zk_bnd, zk_some, zlp_l, zlp_r, zb_some, zb_bnd, zI_add, zI_sub, zI_mul, zI_neg, zI_le, zI_lt, zI_eq, zI_ix, zI_inI, Int.toNat_natCast, Int.toNat_add, Int.toNat_mul, true_and, and_true]; omega), if_neg (by simp (disch := omega) only [zk_bind, zk_chk, zk_bnd, zk_some, zlp_l, zlp_r, zb_some, zb_bnd, zI_add, zI_sub, zI_mul, zI_neg, zI_le, zI_lt, zI_eq, zI_ix, zI_inI, Int.toNat_natCast, Int.toNat_add, Int.toNat_mul, true_and, and_true]; omega)]
    unfold f_X1_undoLast_113
    rw [d3, if_neg (by simp (disch := omega) only [zk_bind, zk_chk, zk_bnd, zk_some, zlp_l, zlp_r, zb_some, zb_bnd, zI_add, zI_sub, zI_mul, zI_neg, zI_le, zI_lt, zI_eq, zI_ix, zI_inI, Int.toNat_natCast, Int.toNat_add, Int.toNat_mul, true_and, and_true]; omega), if_neg (by simp (disch := omega) only [zk_bind, zk_chk, zk_bnd, zk_some, zlp_l, zlp_r, zb_some, zb_bnd, zI_add, zI_sub, zI_mul, zI_neg, zI_le, zI_lt, zI_eq, zI_ix, zI_inI, Int.toNat_natCast, Int.toNat_add, Int.toNat_mul, true_and, and_true]; omega), zI_inI (by omega) (by omega) (by omega), zb_chk, zb_bnd, zb_some, zI_ix (by omega) (by omega), Int.toNat_natCast]
    dsimp only
    rw [if_neg (by simp (disch := omega) only [zk_bind, zk_chk, zk_bnd, zk_some, zlp_l, zlp_r, zb_some, zb_bnd, zI_add, zI_sub, zI_mul, zI_neg, zI_le, zI_lt, zI_eq, zI_ix, zI_inI, Int.toNat_natCast, Int.toNat_add, Int.toNat_mul, true_and, and_true]; omega), if_neg (by simp (disch := omega) only [zk_bind, zk_chk, zk_bnd, zk_some, zlp_l, zlp_r, zb_some, zb_bnd, zI_add, zI_sub, zI_mul, zI_neg, zI_le, zI_lt, zI_eq, zI_ix, zI_inI, Int.toNat_natCast, Int.toNat_add, Int.toNat_mul, true_and, and_true]; omega), if_neg (by simp (disch := omega) only [zk_bind, zk_chk, zk_bnd, zk_some, zlp_l, zlp_r, zb_some, zb_bnd, zI_add, zI_sub, zI_mul, zI_neg, zI_le, zI_lt, zI_eq, zI_ix, zI_inI, Int.toNat_natCast, Int.toNat_add, Int.toNat_mul, true_and, and_true]; omega), zk_bnd]
    unfold f_X11_undo_38 f_X1_actsHeld
    rw [zb_some, zk_some]
    have e11 : (zstI (zstI M 21 k (zI w)) 0 13 (zI 1)).1 20 11 = zI p := by
      rw [zm_Iq _ _ _ _ (by decide), zm_Iq _ _ _ _ (by decide)]
      exact m11
    refine ⟨e11, fin _ e11 (fun a k ha => ?_) mo3 (fun a k ha => ?_) ?_ (clueC_cg (h := gh σ) ?_ (fun f hf => ?_) (fun t ht => ⟨?_, ?_, ?_⟩) (clueC_x (fun a k ha => ?_) hcl)) ?_ (Or.inl (zm_Is _ _ _ _))⟩
    · unfold zWact at ha
      simp at ha
      rw [zm_I, if_neg (by omega), zm_Iq _ _ _ _ (by omega), mo a (by omega)]
    · rw [zm_Iq _ _ _ _ (by omega), zm_Iq _ _ _ _ (by omega), mo a (by omega)]
    · have e : ∀ i, i < 3 → (zstI (zstI M 21 k (zI w)) 0 13 (zI 1)).1 21 i = zI (gH σ p i) := by
        intro i hi
        rw [zm_Iq _ _ _ _ (by decide), d4 i (by omega)]
        by_cases hij : i = k
        · rw [hij, zm_Is, if_pos rfl]
        · rw [zm_In _ _ _ _ hij, if_neg (by omega), mo 21 (by decide)]
          rcases (show i = 0 ∨ i = 1 ∨ i = 2 by omega) with rfl | rfl | rfl
          · exact hsC.1
          · exact hsC.2.1
          · exact hsC.2.2.1
      refine ⟨e 0 (by omega), e 1 (by omega), e 2 (by omega), fun t ht => ?_⟩
      rw [zm_Iq _ _ _ _ (by decide), zm_Iq _ _ _ _ (by decide), mo 22 (by decide), d4 _ (by omega), if_neg (by omega)]
      exact hsC.2.2.2 t ht
    · rw [d4 _ (by omega), if_neg (by omega)]
    · rw [d4 _ (by omega), if_neg (by omega)]
    · rw [d4 _ (by have := hk.2.2.2.1; omega), if_neg (by omega)]
    · rw [d4 _ (by have := hk.2.2.2.1; omega), if_neg (by omega)]
    · rw [d4 _ (by have := hk.2.2.2.1; omega), if_neg (by omega)]
    · unfold dclueC at ha
      simp at ha
      rw [zm_Iq _ _ _ _ (by omega), zm_Iq _ _ _ _ (by omega)]
      by_cases h20 : a = 20
      · rw [h20, mo2 k (by omega)]
      · rw [mo a h20]
    · rw [zm_In _ _ _ _ (by decide), zm_Iq _ _ _ _ (by decide), mo 0 (by decide)]
      exact hc.2.2.2.2.2.1.2.1
  · obtain ⟨q, rfl⟩ := Int.eq_ofNat_of_zero_le d2
    rw [d1, if_neg (by decide), if_neg (by decide), if_pos rfl, if_neg (by simp (disch := omega) only [zk_bind, zk_chk, zk_bnd, zk_some, zlp_l, zlp_r, zb_some, zb_bnd, zI_add, zI_sub, zI_mul, zI_neg, zI_le, zI_lt, zI_eq, zI_ix, zI_inI, Int.toNat_natCast, Int.toNat_add, Int.toNat_mul, true_and, and_true]; omega), if_neg (by simp (disch := omega) only [zk_bind, zk_chk, zk_bnd, zk_some, zlp_l, zlp_r, zb_some, zb_bnd, zI_add, zI_sub, zI_mul, zI_neg, zI_le, zI_lt, zI_eq, zI_ix, zI_inI, Int.toNat_natCast, Int.toNat_add, Int.toNat_mul, true_and, and_true]; omega), zI_inI (by omega) (by omega) (by omega), zb_chk, zb_bnd, zb_some, zI_ix (by omega) (by omega), Int.toNat_natCast]
    dsimp only
    rw [if_neg (by decide), if_neg (by decide), if_neg (by decide), zk_bnd]
    unfold f_X11_undo_38 f_X1_actsHeld
    rw [zb_some, zk_some]
    have e11 : (zstI (zstI M 22 q (zI w)) 0 13 (zI 1)).1 20 11 = zI p := by
      rw [zm_Iq _ _ _ _ (by decide), zm_Iq _ _ _ _ (by decide)]
      exact m11
    refine ⟨e11, fin _ e11 (fun a k ha => ?_) mo3 (fun a k ha => ?_) ⟨?_, ?_, ?_, fun t ht => ?_⟩ (clueC_cg (h := gh σ) ?_ (fun f hf => ?_) (fun t ht => ⟨?_, ?_, ?_⟩) (clueC_x (fun a k ha => ?_) hcl)) ?_ (Or.inl (zm_Is _ _ _ _))⟩
    · unfold zWact at ha
      simp at ha
      rw [zm_I, if_neg (by omega), zm_Iq _ _ _ _ (by omega), mo a (by omega)]
    · rw [zm_Iq _ _ _ _ (by omega), zm_Iq _ _ _ _ (by omega), mo a (by omega)]
    · rw [zm_Iq _ _ _ _ (by decide), zm_Iq _ _ _ _ (by decide), mo 21 (by decide), d4 _ (by omega), if_neg (by omega)]
      exact hsC.1
    · rw [zm_Iq _ _ _ _ (by decide), zm_Iq _ _ _ _ (by decide), mo 21 (by decide), d4 _ (by omega), if_neg (by omega)]
      exact hsC.2.1
    · rw [zm_Iq _ _ _ _ (by decide), zm_Iq _ _ _ _ (by decide), mo 21 (by decide), d4 _ (by omega), if_neg (by omega)]
      exact hsC.2.2.1
    · rw [zm_Iq _ _ _ _ (by decide), d4 _ (by omega)]
      by_cases htq : t = q
      · rw [htq, zm_Is, if_pos (by omega)]
      · rw [zm_In _ _ _ _ htq, if_neg (by omega), mo 22 (by decide)]
        exact hsC.2.2.2 t ht
    · rw [d4 _ (by omega), if_neg (by omega)]
    · rw [d4 _ (by omega), if_neg (by omega)]
    · rw [d4 _ (by have := hk.2.2.2.1; omega), if_neg (by omega)]
    · rw [d4 _ (by have := hk.2.2.2.1; omega), if_neg (by omega)]
    · rw [d4 _ (by have := hk.2.2.2.1; omega), if_neg (by omega)]
    · unfold dclueC at ha
      simp at ha
      rw [zm_Iq _ _ _ _ (by omega), zm_Iq _ _ _ _ (by omega)]
      by_cases h20 : a = 20
      · rw [h20, mo2 k (by omega)]
      · rw [mo a h20]
    · rw [zm_In _ _ _ _ (by decide), zm_Iq _ _ _ _ (by decide), mo 0 (by decide)]
      exact hc.2.2.2.2.2.1.2.1
  · have h12 := hk.2.2.2.1
    have hm : (if zI 0 < zI (gh σ 3) - zI 1 then zI (gh σ 3) - zI 1 else zI 0) = zI (gH σ p 3) := by
      rw [zI_sub, d2]
      by_cases h0 : 0 < gh σ 3 - 1
      · rw [if_pos (by simp (disch := omega) only [zk_bind, zk_chk, zk_bnd, zk_some, zlp_l, zlp_r, zb_some, zb_bnd, zI_add, zI_sub, zI_mul, zI_neg, zI_le, zI_lt, zI_eq, zI_ix, zI_inI, Int.toNat_natCast, Int.toNat_add, Int.toNat_mul, true_and, and_true]; omega)]
      · rw [if_neg (by simp (disch := omega) only [zk_bind, zk_chk, zk_bnd, zk_some, zlp_l, zlp_r, zb_some, zb_bnd, zI_add, zI_sub, zI_mul, zI_neg, zI_le, zI_lt, zI_eq, zI_ix, zI_inI, Int.toNat_natCast, Int.toNat_add, Int.toNat_mul, true_and, and_true]; omega)]
        exact zI_inj (by omega)
    rw [d1, if_pos rfl, zb_bnd, mo2 9 (by decide), hcl.1, hm, zb_some]
    dsimp only
    rw [if_neg (by decide), if_pos rfl]
    unfold f_X11_undo_25 f_X11_undo_38 f_X1_actsHeld
    rw [zk_bnd, zb_some, zk_some]
    have e11 : (zstI (zstI M 20 9 (zI (gH σ p 3))) 0 14 (zI 1)).1 20 11 = zI p := by
      rw [zm_Iq _ _ _ _ (by decide), zm_In _ _ _ _ (by decide)]
      exact m11
    have hsm : zsame (gh σ) (gH σ p) := ⟨d4 0 (by omega) (by omega), d4 1 (by omega) (by omega), d4 2 (by omega) (by omega), fun t ht => d4 _ (by omega) (by omega)⟩
    refine ⟨e11, fin _ e11 (fun a k ha => ?_) mo3 (fun a k ha => ?_) (setC_cg hsm (setC_x (fun a k ha => ?_) hsC)) ⟨?_, fun t ht => ?_, fun f hf => ?_, ?_⟩ (Or.inr (zm_Is _ _ _ _)) (Or.inr ⟨?_, zm_Is _ _ _ _, hsm⟩)⟩
    · unfold zWact at ha
      simp at ha
      rw [zm_I, if_neg (by omega), zm_Iq _ _ _ _ (by omega), mo a (by omega)]
    · rw [zm_Iq _ _ _ _ (by omega), zm_Iq _ _ _ _ (by omega), mo a (by omega)]
    · unfold dsetC at ha
      simp at ha
      rw [zm_Iq _ _ _ _ (by omega), zm_Iq _ _ _ _ (by omega), mo a (by omega)]
    · rw [zm_Iq _ _ _ _ (by decide), zm_Is]
    · obtain ⟨x1, x2, x3⟩ := d5 t ht
      obtain ⟨y1, y2, y3⟩ := hcl.2.1 t (by omega)
      have v : ∀ a, a ≠ 20 → a ≠ 0 → (zstI (zstI M 20 9 (zI (gH σ p 3))) 0 14 (zI 1)).1 a = C.1 a := fun a h1 h2 => by rw [zm_Iq _ _ _ _ h2, zm_Iq _ _ _ _ h1, mo a h1]
      rw [v 23 (by decide) (by decide), v 24 (by decide) (by decide), v 25 (by decide) (by decide), x1, x2, x3]
      exact ⟨y1, y2, y3⟩
    · rw [zm_Iq _ _ _ _ (by decide), zm_Iq _ _ _ _ (by decide), mo 26 (by decide), d4 _ (by omega) (by omega)]
      exact hcl.2.2.1 f hf
    · rw [zm_Iq _ _ _ _ (by decide), zm_In _ _ _ _ (by decide), mo2 10 (by decide), hcl.2.2.2]
      unfold zguess
      rw [zsum_cg (fun f hf => by rw [← d4 (4 + f) (by omega) (by omega)])]
    · rw [zm_In _ _ _ _ (by decide), zm_Iq _ _ _ _ (by decide), mo 0 (by decide)]
  · obtain ⟨q, rfl⟩ := Int.eq_ofNat_of_zero_le d2
    have hw : gH σ p (4 + q) = w := by rw [d4 _ (by omega), if_pos (by omega)]
    have hq := hk.2.2.2.2.1 q (by omega)
    have hq' := hk'.2.2.2.2.1 q (by omega)
    have hclM : clueC (gh σ) M := clueC_x (fun a k ha => by
      unfold dclueC at ha
      simp at ha
      by_cases h20 : a = 20
      · rw [h20, mo2 k (by omega)]
      · rw [mo a h20]) hcl
    rw [d1, if_neg (by decide), if_pos rfl, zk_bind, zk_bind]
    refine zOk_mono (c_putGuess (f := q) (g := zguess (gh σ)) (u := gh σ (4 + q)) (v := w) (by omega) (hclM.2.2.1 q (by omega)) hclM.2.2.2 ⟨hq.1, hq.2.1⟩ (by rw [← hw]; exact ⟨hq'.1, hq'.2.1⟩)) (fun N k2 => ?_)
    rw [zk_some]
    dsimp only
    rw [if_neg (by decide), if_neg (by decide), if_pos rfl]
    unfold f_X11_undo_25 f_X11_undo_38 f_X1_actsHeld
    rw [zk_bnd, zb_some, zk_some]
    have hcl2 : clueC (gH σ p) N := clueC_put (h := gh σ) (show q < 20 by omega) hw (fun j hj hj2 => by rw [d4 j hj, if_neg (by omega)]) hk.2.2.2.1.2 hclM k2
    have e11 : (zstI N 0 14 (zI 1)).1 20 11 = zI p := by
      rw [zm_Iq _ _ _ _ (by decide), k2.2.2.2.1 20 11 rfl]
      exact m11
    have hsm : zsame (gh σ) (gH σ p) := ⟨by rw [d4 _ (by omega), if_neg (by omega)], by rw [d4 _ (by omega), if_neg (by omega)], by rw [d4 _ (by omega), if_neg (by omega)], fun t ht => by rw [d4 _ (by omega), if_neg (by omega)]⟩
    refine ⟨e11, fin _ e11 (fun a k ha => ?_) (by rw [zm_I2, k2.2.2.2.2, mo3]) (fun a k ha => ?_) (setC_cg hsm (setC_x (fun a k ha => ?_) hsC)) (clueC_x (fun a k ha => ?_) hcl2) (Or.inr (zm_Is _ _ _ _)) (Or.inr ⟨?_, zm_Is _ _ _ _, hsm⟩)⟩
    · unfold zWact at ha
      simp at ha
      rw [zm_I, if_neg (by omega), k2.2.2.2.1 a k (by unfold zWpg; simp; omega), mo a (by omega)]
    · rw [zm_Iq _ _ _ _ (by omega), k2.2.2.2.1 a k (by unfold zWpg; simp; omega), mo a (by omega)]
    · unfold dsetC at ha
      simp at ha
      rw [zm_Iq _ _ _ _ (by omega), k2.2.2.2.1 a k (by unfold zWpg; simp; omega), mo a (by omega)]
    · unfold dclueC at ha
      simp at ha
      rw [zm_Iq _ _ _ _ (by omega)]
    · rw [zm_In _ _ _ _ (by decide), k2.2.2.2.1 0 13 rfl, mo 0 (by decide)]
theorem zp_undo : zPr_undo zRel := by
  rintro M1 M2 ⟨σ, ho, hc, hr⟩
  have hP := ho.2.2.2.2.1
  by_cases h0 : gP σ = 0
  · unfold f_X11_undo f_X1_undoLast f_X12_undo
    rw [hc.2.2.2.1.1, hr.2.2.2.2.2.1.1, h0, if_neg (by decide), if_pos (c := zI ((0 : Nat) : Int) = zI 0) rfl, zb_some, if_pos rfl, zk_some, zk_some]
    exact ⟨rfl, σ, ho, hc, hr⟩
  · obtain ⟨p, hp⟩ : ∃ p, gP σ = p + 1 := ⟨gP σ - 1, by omega⟩
    refine zOk_mono (c_undo ho hc hp) (fun r1 h => ?_)
    have hpa := hr.2.2.2.2.2.1
    rw [hp] at hpa
    refine zOk_mono (r_undo (by omega) hpa) (fun r2 h' => ?_)
    exact ⟨by rw [h.1, h'.1], zPH σ p (gH σ), okT_h ho (by omega) (fun t ht => ho.2.2.2.2.2.1 t (by omega)), h.2, relR_h h'.2.2.2.2 h'.2.1 h'.2.2.1 h'.2.2.2.1 hr⟩
