/-! ===== forms told: the reference ===== deps: 97.zy.forms 97.zxc.stoner2 -/
def z02 (a k : Nat) : Bool := a == 0 && k == 2
def z023 (a k : Nat) : Bool := a == 0 && (k == 2 || k == 3)
def zWr4 (a k : Nat) : Bool := a == 3 || (a == 0 && (k == 2 || k == 3 || k == 5))
theorem z02_3 {M0 M : ZMem} (h : zP z02 M0 M) : zP z023 M0 M := zP_mono h (fun a k ha => by unfold z023 at ha; unfold z02; simp at ha ⊢; omega)
theorem z023_4 {M0 M : ZMem} (h : zP z023 M0 M) : zP zWr4 M0 M := zP_mono h (fun a k ha => by unfold zWr4 at ha; unfold z023; simp at ha ⊢; omega)
theorem tapeR_4 {t : List Nat} {M0 M : ZMem} (h : zP zWr4 M0 M) (ht : tapeR t M0) : tapeR t M := ⟨by rw [h.1 0 1 rfl]; exact ht.1, fun j hj => by rw [h.1 1 j rfl]; exact ht.2 j hj⟩
theorem r_blanks {M : ZMem} {t : List Nat} {i : Nat} (hb : okB t) (ht : tapeR t M) (hi : i ≤ 400) (h2 : M.1 0 2 = zI i) : zOk (f_X12_blanks M) (fun M' => (i ≤ 300 → M'.1 0 2 = zI (y4B t i) ∧ zch t (y4B t i) ≠ 32) ∧ zP z02 M M') := by
  have hl := hb.1
  unfold f_X12_blanks
  rw [zk_bind]
  refine zOk_forQ (fun j s => s.1 0 2 = zI ((i + j : Nat) : Int) ∧ (∀ l, i ≤ l → l < i + j → zch t l = 32) ∧ zP z02 M s) (300 - i) ?_ ?_ ⟨h2, fun l h1 h2 => by omega, zP_rf⟩
  · rintro j s hj ⟨e1, e2, e3⟩ Q hQ hE
    have hts := tapeR_4 (z023_4 (z02_3 e3)) ht
    have hz := zch_rng hb (i + j)
    unfold f_X12_blanks_L0
    rw [r_sign hb hts (by omega) e1, zb_some]
    by_cases hc : zch t (i + j) = 32
    · rw [if_pos (by rw [hc]), e1, zI_add, zk_bnd, zk_some]
      refine hQ _ ⟨by rw [zm_Is]; exact zI_inj (by omega), fun l h1 h2 => ?_, zP_I e3 rfl⟩
      by_cases hl : l = i + j
      · rw [hl]; exact hc
      · exact e2 l h1 (by omega)
    · rw [if_neg (by simp (disch := omega) only [zk_bind, zk_chk, zk_bnd, zk_some, zlp_l, zlp_r, zb_some, zb_bnd, zI_add, zI_sub, zI_mul, zI_neg, zI_le, zI_lt, zI_eq, zI_ix, zI_inI, Int.toNat_natCast, Int.toNat_add, Int.toNat_mul, true_and, and_true]; omega), zk_some]
      refine hE _ ?_
      rw [zk_some]
      rw [y4B_of (n := i + j) (by omega) (by omega) e2 (Or.inr hc)]
      exact ⟨fun _ => ⟨e1, hc⟩, e3⟩
  · rintro s ⟨e1, e2, e3⟩
    have hts := tapeR_4 (z023_4 (z02_3 e3)) ht
    have hz : zch t (i + (300 - i)) = -1 := zch_e (by omega)
    refine ⟨s, ?_, ?_⟩
    · unfold f_X12_blanks_L0
      rw [r_sign hb hts (by omega) e1, zb_some, hz, if_neg (by decide)]
    · rw [zk_some]
      refine ⟨fun hi3 => ?_, e3⟩
      rw [y4B_of (n := i + (300 - i)) (by omega) (by omega) e2 (Or.inl (by omega)), hz]
      exact ⟨e1, by omega⟩
theorem r_isDigit {M : ZMem} {t : List Nat} (hb : okB t) (h : tapeR t M) {i : Nat} (hi : i ≤ 1000) (hp : M.1 0 2 = zI i) : f_X12_isDigit M = some (zI (zb (48 ≤ zch t i ∧ zch t i ≤ 57))) := by
  have := zch_rng hb i
  unfold f_X12_isDigit
  rw [r_sign hb h hi hp, zb_some, r_in (by omega) (by omega) (by omega) (by omega) (by omega) (by omega), zb_some, zisB_n (zb_le _), zb_chk]
theorem r_stay {E : ZMem} {f : Nat} (hf : f < 3000) (hE : E.1 0 3 = zI f) (a b : Int32) : f_X12_fails E a b = some E := by
  unfold f_X12_fails
  rw [hE, if_neg (by simp (disch := omega) only [zk_bind, zk_chk, zk_bnd, zk_some, zlp_l, zlp_r, zb_some, zb_bnd, zI_add, zI_sub, zI_mul, zI_neg, zI_le, zI_lt, zI_eq, zI_ix, zI_inI, Int.toNat_natCast, Int.toNat_add, Int.toNat_mul, true_and, and_true]; omega)]
theorem r_number {M : ZMem} {t : List Nat} {i : Nat} (hb : okB t) (ht : tapeR t M) (hi : i ≤ 300) (h2 : M.1 0 2 = zI i) (h3 : M.1 0 3 = zI (-1)) : zOk (f_X12_numberTaken M) (fun r => zP z023 M r.1 ∧ ((∃ p, p ≤ 300 ∧ r.1.1 0 2 = zI ((p : Nat) : Int)) ∧ ((y4D t (y4B t i) = y4B t i ∧ r.1.1 0 3 = zI ((8 * y4B t i + 1 : Nat) : Int)) ∨ (y4D t (y4B t i) ≠ y4B t i ∧ 31 < y4V t (y4B t i) (y4D t (y4B t i) - y4B t i) ∧ r.1.1 0 3 = zI ((8 * y4B t i + 2 : Nat) : Int)) ∨ (y4D t (y4B t i) ≠ y4B t i ∧ y4V t (y4B t i) (y4D t (y4B t i) - y4B t i) ≤ 31 ∧ r.1.1 0 3 = zI (-1) ∧ r.1.1 0 2 = zI (y4D t (y4B t i)) ∧ r.2 = zI (y4V t (y4B t i) (y4D t (y4B t i) - y4B t i)))))) := by
  have hl := hb.1
  unfold f_X12_numberTaken
  rw [zk_bind]
  refine zOk_mono (r_blanks hb ht (by omega) h2) (fun N g => ?_)
  obtain ⟨g1, g2⟩ := g
  obtain ⟨g1, g3⟩ := g1 hi
  have hs := (y4B_le (t := t) hi).2
  generalize y4B t i = s at g1 g3 hs ⊢
  have htN := tapeR_4 (z023_4 (z02_3 g2)) ht
  have n3 : N.1 0 3 = zI (-1) := by rw [g2.1 0 3 rfl]; exact h3
  have hz := zch_rng hb s
  rw [g1, zk_bnd, r_isDigit hb htN (by omega) g1, zb_some]
  by_cases hd : 48 ≤ zch t s ∧ zch t s ≤ 57
  · rw [if_neg (fun hh => zb_0.mp hh hd), zk_bind]
    have hs3 : s < 300 := by
      apply Classical.byContradiction
      intro hh
      rw [zch_e (by omega)] at hd
      omega
    have fin : ∀ j E, (∀ l, s ≤ l → l < s + j → 48 ≤ zch t l ∧ zch t l ≤ 57) → 1 ≤ j → s + j ≤ 300 → ¬ (48 ≤ zch t (s + j) ∧ zch t (s + j) ≤ 57) → E.1 0 2 = zI ((s + j : Nat) : Int) → zP z02 N E → zOk (if zI ((min 1000 (y4V t s j) : Nat) : Int) ≤ zI 31 then some (E, zI ((min 1000 (y4V t s j) : Nat) : Int)) else zbind (f_X12_fails E (zI 2) (zI s)) (fun M_77 => some (M_77, zI ((min 1000 (y4V t s j) : Nat) : Int)))) (fun r => zP z023 M r.1 ∧ ((∃ p, p ≤ 300 ∧ r.1.1 0 2 = zI ((p : Nat) : Int)) ∧ ((y4D t s = s ∧ r.1.1 0 3 = zI ((8 * s + 1 : Nat) : Int)) ∨ (y4D t s ≠ s ∧ 31 < y4V t s (y4D t s - s) ∧ r.1.1 0 3 = zI ((8 * s + 2 : Nat) : Int)) ∨ (y4D t s ≠ s ∧ y4V t s (y4D t s - s) ≤ 31 ∧ r.1.1 0 3 = zI (-1) ∧ r.1.1 0 2 = zI (y4D t s) ∧ r.2 = zI (y4V t s (y4D t s - s)))))) := by
      intro j E a1 a2 a3 a4 a5 a6
      have e3 : E.1 0 3 = zI (-1) := by rw [a6.1 0 3 rfl]; exact n3
      have pE : zP z023 M E := zP_tr (z02_3 g2) (z02_3 a6)
      rw [y4D_of (n := s + j) (by omega) a3 a1 (Or.inr a4), Nat.add_sub_cancel_left]
      by_cases hv : y4V t s j ≤ 31
      · rw [if_pos (by simp (disch := omega) only [zk_bind, zk_chk, zk_bnd, zk_some, zlp_l, zlp_r, zb_some, zb_bnd, zI_add, zI_sub, zI_mul, zI_neg, zI_le, zI_lt, zI_eq, zI_ix, zI_inI, Int.toNat_natCast, Int.toNat_add, Int.toNat_mul, true_and, and_true]; omega), zk_some]
        exact ⟨pE, ⟨s + j, a3, a5⟩, Or.inr (Or.inr ⟨by omega, hv, e3, a5, by dsimp only; exact zI_inj (by omega)⟩)⟩
      · rw [if_neg (by simp (disch := omega) only [zk_bind, zk_chk, zk_bnd, zk_some, zlp_l, zlp_r, zb_some, zb_bnd, zI_add, zI_sub, zI_mul, zI_neg, zI_le, zI_lt, zI_eq, zI_ix, zI_inI, Int.toNat_natCast, Int.toNat_add, Int.toNat_mul, true_and, and_true]; omega)]
        unfold f_X12_fails
        rw [e3, if_pos rfl, zI_mul, zI_add, zb_bnd, zb_some, zk_some]
        exact ⟨zP_I pE rfl, ⟨s + j, a3, by dsimp only; rw [zm_In _ _ _ _ (by decide)]; exact a5⟩, Or.inr (Or.inl ⟨by omega, by omega, by dsimp only; rw [zm_Is]; exact zI_inj (by omega)⟩)⟩
    refine zOk_forQ (fun j x => x.1.1 0 2 = zI ((s + j : Nat) : Int) ∧ x.2 = zI ((min 1000 (y4V t s j) : Nat) : Int) ∧ (∀ l, s ≤ l → l < s + j → 48 ≤ zch t l ∧ zch t l ≤ 57) ∧ zP z02 N x.1) (300 - s) ?_ ?_ ⟨g1, rfl, fun l h1 h2 => by omega, zP_rf⟩
    · rintro j ⟨E, v⟩ hj ⟨e1, e2, e3, e4⟩ Q hQ hE
      dsimp only at e1 e2 e4
      have htE := tapeR_4 (z023_4 (zP_tr (z02_3 g2) (z02_3 e4))) ht
      have hz := zch_rng hb (s + j)
      unfold f_X12_numberTaken_L29
      dsimp only
      rw [r_isDigit hb htE (by omega) e1, zb_some]
      by_cases hdj : 48 ≤ zch t (s + j) ∧ zch t (s + j) ≤ 57
      · have hV : y4V t s (j + 1) = 10 * y4V t s j + (zch t (s + j) - 48).toNat := rfl
        rw [if_neg (fun hh => zb_0.mp hh hdj), r_sign hb htE (by omega) e1, zb_some, e2, e1, zI_mul, zI_add, zI_sub, zI_add, zk_bnd, zk_bnd, zk_some]
        refine hQ _ ⟨by rw [zm_Is]; exact zI_inj (by omega), ?_, fun l h1 h2 => ?_, zP_I e4 rfl⟩
        · show (if zI (10 * ((min 1000 (y4V t s j) : Nat) : Int) + zch t (s + j) - 48) < zI 1000 then zI (10 * ((min 1000 (y4V t s j) : Nat) : Int) + zch t (s + j) - 48) else zI 1000) = zI ((min 1000 (y4V t s (j + 1)) : Nat) : Int)
          rw [hV]
          by_cases c3 : 10 * ((min 1000 (y4V t s j) : Nat) : Int) + zch t (s + j) - 48 < 1000
          · rw [if_pos (by simp (disch := omega) only [zk_bind, zk_chk, zk_bnd, zk_some, zlp_l, zlp_r, zb_some, zb_bnd, zI_add, zI_sub, zI_mul, zI_neg, zI_le, zI_lt, zI_eq, zI_ix, zI_inI, Int.toNat_natCast, Int.toNat_add, Int.toNat_mul, true_and, and_true]; omega)]
            exact zI_inj (by omega)
          · rw [if_neg (by simp (disch := omega) only [zk_bind, zk_chk, zk_bnd, zk_some, zlp_l, zlp_r, zb_some, zb_bnd, zI_add, zI_sub, zI_mul, zI_neg, zI_le, zI_lt, zI_eq, zI_ix, zI_inI, Int.toNat_natCast, Int.toNat_add, Int.toNat_mul, true_and, and_true]; omega)]
            exact zI_inj (by omega)
        · by_cases hl : l = s + j
          · rw [hl]; omega
          · exact e3 l h1 (by omega)
      · have hj1 : 1 ≤ j := by
          apply Classical.byContradiction
          intro hh
          rw [show s + j = s by omega] at hdj
          exact hdj hd
        rw [if_pos (zb_0.mpr hdj), zk_some]
        refine hE _ ?_
        dsimp only
        rw [e2]
        exact fin j E e3 hj1 (by omega) hdj e1 e4
    · rintro ⟨E, v⟩ ⟨e1, e2, e3, e4⟩
      dsimp only at e1 e2 e4
      have htE := tapeR_4 (z023_4 (zP_tr (z02_3 g2) (z02_3 e4))) ht
      have hzz : zch t (s + (300 - s)) = -1 := zch_e (by omega)
      have hdj : ¬ (48 ≤ zch t (s + (300 - s)) ∧ zch t (s + (300 - s)) ≤ 57) := by rw [hzz]; omega
      refine ⟨(E, v), ?_, ?_⟩
      · unfold f_X12_numberTaken_L29
        dsimp only
        rw [r_isDigit hb htE (by omega) e1, zb_some, if_pos (zb_0.mpr hdj)]
      · dsimp only
        rw [e2]
        exact fin _ E e3 (by omega) (by omega) hdj e1 e4
  · rw [if_pos (zb_0.mpr hd)]
    unfold f_X12_fails
    rw [n3, if_pos rfl, zI_mul, zI_add, zb_bnd, zb_some, zk_some, y4D_of (n := s) (Nat.le_refl s) hs (fun l h1 h2 => by omega) (Or.inr hd)]
    exact ⟨zP_I (z02_3 g2) rfl, ⟨s, hs, by dsimp only; rw [zm_In _ _ _ _ (by decide)]; exact g1⟩, Or.inl ⟨rfl, by dsimp only; rw [zm_Is]; exact zI_inj (by omega)⟩⟩
theorem r_isTold {M : ZMem} {n : Nat} {fr v : Nat → Nat} (hn : n ≤ 20) (h5 : M.1 0 5 = zI n) (ho : ∀ m, m < n → ∀ r, r < 5 → M.1 3 (5 * m + r) = zI (fr (5 * m + r))) (hw : ∀ r, r < 5 → M.1 3 (5 * n + r) = zI (v r)) (hr : ∀ m, m < n → ∀ r, r < 5 → fr (5 * m + r) < 32) (hv : ∀ r, r < 5 → v r < 32) : f_X12_isTold M = some (zI (zb (∃ m, m < n ∧ ∀ r, r < 5 → fr (5 * m + r) = v r))) := by
  unfold f_X12_isTold
  refine zOk_is ?_
  rw [zk_bind]
  refine zOk_forQ (fun i s => s = zI i ∧ ∀ m, m < i → ¬ (∀ r, r < 5 → fr (5 * m + r) = v r)) n ?_ ?_ ⟨rfl, fun j hj => absurd hj (Nat.not_lt_zero j)⟩
  · rintro i s hi ⟨rfl, e2⟩ Q hQ hE
    have key : zloop (f_X12_isTold_L14 M (zI i)) (zI 1, zI 0) = some (zI (zb (∀ r, r < 5 → fr (5 * i + r) = v r))) := by
      refine zOk_is ?_
      refine zOk_forQ (fun k x => x.2 = zI k ∧ x.1 = zI (zb (∀ r, r < k → fr (5 * i + r) = v r))) 5 ?_ ?_ ⟨rfl, by rw [zb_t (fun r hr => absurd hr (Nat.not_lt_zero r))]; rfl⟩
      · rintro k ⟨x, y⟩ hk ⟨d1, d2⟩ Q' hQ' _
        dsimp only at d1 d2
        unfold f_X12_isTold_L14
        dsimp only
        rw [d1, if_neg (by simp (disch := omega) only [zk_bind, zk_chk, zk_bnd, zk_some, zlp_l, zlp_r, zb_some, zb_bnd, zI_add, zI_sub, zI_mul, zI_neg, zI_le, zI_lt, zI_eq, zI_ix, zI_inI, Int.toNat_natCast, Int.toNat_add, Int.toNat_mul, true_and, and_true]; omega)]
        by_cases hp : ∀ r, r < k → fr (5 * i + r) = v r
        · rw [d2, if_neg (fun hh => zb_0.mp hh hp), zI_mul, zI_add, zI_inI (by omega) (by omega) (by omega), zb_chk, h5, zI_mul, zI_add, zI_inI (by omega) (by omega) (by omega), zb_chk, zI_ix (by omega) (by omega), zI_ix (by omega) (by omega), show (5 * (i : Int) + (k : Int)).toNat = 5 * i + k by omega, show (5 * (n : Int) + (k : Int)).toNat = 5 * n + k by omega, ho i hi k hk, hw k hk]
          have b1 := hr i hi k hk
          have b2 := hv k hk
          by_cases he : fr (5 * i + k) = v k
          · rw [if_pos (by rw [he]), zI_add, zk_bnd, zk_some]
            refine hQ' _ ⟨zI_inj (by omega), ?_⟩
            rw [zb_t (fun r hr => ?_)]
            · rfl
            · by_cases hrk : r = k
              · rw [hrk]; exact he
              · exact hp r (by omega)
          · rw [if_neg (by simp (disch := omega) only [zk_bind, zk_chk, zk_bnd, zk_some, zlp_l, zlp_r, zb_some, zb_bnd, zI_add, zI_sub, zI_mul, zI_neg, zI_le, zI_lt, zI_eq, zI_ix, zI_inI, Int.toNat_natCast, Int.toNat_add, Int.toNat_mul, true_and, and_true]; omega), zI_add, zk_bnd, zk_some]
            refine hQ' _ ⟨zI_inj (by omega), ?_⟩
            rw [zb_f (fun hh => he (hh k (by omega)))]
            rfl
        · rw [d2, if_pos (zb_0.mpr hp), zI_add, zk_bnd, zk_some]
          refine hQ' _ ⟨zI_inj (by omega), ?_⟩
          rw [zb_f (fun hh => hp (fun r hr => hh r (by omega)))]
          rfl
      · rintro ⟨x, y⟩ ⟨d1, d2⟩
        dsimp only at d1 d2
        refine ⟨x, ?_, d2⟩
        unfold f_X12_isTold_L14
        dsimp only
        rw [d1, if_pos (by simp (disch := omega) only [zk_bind, zk_chk, zk_bnd, zk_some, zlp_l, zlp_r, zb_some, zb_bnd, zI_add, zI_sub, zI_mul, zI_neg, zI_le, zI_lt, zI_eq, zI_ix, zI_inI, Int.toNat_natCast, Int.toNat_add, Int.toNat_mul, true_and, and_true]; omega)]
    unfold f_X12_isTold_L2
    rw [h5, if_neg (by simp (disch := omega) only [zk_bind, zk_chk, zk_bnd, zk_some, zlp_l, zlp_r, zb_some, zb_bnd, zI_add, zI_sub, zI_mul, zI_neg, zI_le, zI_lt, zI_eq, zI_ix, zI_inI, Int.toNat_natCast, Int.toNat_add, Int.toNat_mul, true_and, and_true]; omega), key, zb_some]
    by_cases hp : ∀ r, r < 5 → fr (5 * i + r) = v r
    · rw [if_neg (fun hh => zb_0.mp hh hp), zk_some]
      refine hE _ ?_
      show zOk (some (zI 1)) _
      rw [zk_some, zb_t ⟨i, hi, hp⟩]
      rfl
    · rw [if_pos (zb_0.mpr hp), zI_add, zk_bnd, zk_some]
      refine hQ _ ⟨zI_inj (by omega), fun m hm => ?_⟩
      by_cases hmi : m = i
      · rw [hmi]; exact hp
      · exact e2 m (by omega)
  · rintro s ⟨rfl, e2⟩
    refine ⟨.inl (), ?_, ?_⟩
    · unfold f_X12_isTold_L2
      rw [h5, if_pos (by simp (disch := omega) only [zk_bind, zk_chk, zk_bnd, zk_some, zlp_l, zlp_r, zb_some, zb_bnd, zI_add, zI_sub, zI_mul, zI_neg, zI_le, zI_lt, zI_eq, zI_ix, zI_inI, Int.toNat_natCast, Int.toNat_add, Int.toNat_mul, true_and, and_true]; omega)]
    · show zOk (some (zI 0)) _
      rw [zk_some, zb_f (fun hh => by obtain ⟨m, h1, h2⟩ := hh; exact e2 m h1 h2)]
      rfl
